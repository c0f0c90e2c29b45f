/-! the class reads parts: emit, sustain -/
section
variable {b : Nat → Int32} {n s n0 m : Nat} {τ : Td} {M0 M M' : Mem} {i o i' o' j : Nat} {γ : ClT} {σ : PS} {K : List KE} {cn cn' : Nat → Nat} {ps : List Nat} {tl : List Int64} {f c : Int32} {p t t' h B t0 : Nat} {Q : Option Value → Mem → Prop} {Q1 : Int32 → Mem → Prop} {W : Nat}
theorem EdP.er {e : Int32 × Nat} {v : Nat} (hE : EdP b n s n0 τ M0 o ps tl t0 Q1 (.error e)) (X : CX n0 τ M0 (s + 70) B M' e.1 e.2 ps tl t) (hB : B ≤ 10) (hv : v < t) (ht : t0 ≤ t) : Q1 (Int32.ofNat v) M' := hE M' ps v t (X.mono (Nat.le_refl _) hB) ⟨[], (List.append_nil _).symm⟩ hv ht
theorem EdP.ok' {r : Nat × PS × Nat} (hE : EdP b n s n0 τ M0 o ps tl t0 Q1 (.ok r)) (C : CS b n s n0 τ M0 M' r.1 o r.2.1.2.1 r.2.1.1.1 ps tl) : Q1 (Int32.ofNat r.2.2) M' := hE M' ps C ⟨[], (List.append_nil _).symm⟩
/-- an operation of the tree behind a fault -/
theorem V_op {d : MD} {args : List Value} (X : CX n0 τ M0 W B M f p ps tl t) (hS : ∀ Θ : TrT, TrP M Θ → t ≤ Θ.1 → 1 ≤ Θ.1 → ∃ r : TrT × Nat, Ts Θ r ∧ ∀ Q' : Option Value → Mem → Prop, (∀ M', TrP M' r.1 → TrF M M' → Q' (some (.int (Int32.ofNat r.2))) M') → E h d args M Q') (H : ∀ M' v t', CX n0 τ M0 W B M' f p ps tl t' → t ≤ t' → v < t' → Q (some (.int (Int32.ofNat v))) M') : E h d args M Q := by
  obtain ⟨Θ, hT, ht⟩ := X.trp
  obtain ⟨r, hr, hq⟩ := hS Θ hT ht hT.2.2.1.1
  exact hq Q (fun M' T' k => H M' r.2 r.1.1 (X.tree k T' (Nat.le_refl _)) (Nat.le_trans ht hr.1) hr.2)
theorem Z_emit {w : Int64} {H : Nat} (hB : By b) (hS : Sto b n s) (hC : CS b n s n0 τ M0 M i K.length σ.2.1 σ.1.1 ps tl) (hj : j < ps.length) (ho : K.length ≤ 15) (hH : 80 ≤ H) (hE : EdP b n s n0 τ M0 K.length ps tl (trS σ).1 (fun v M' => Q (some (.int v)) M') (lfM b n m τ 40 w j i K σ)) : E H mdX4_readEmit [.ref 14, .ref (ps.getD j 0)] M Q := by
  obtain ⟨H, rfl⟩ : ∃ H', H = H' + 80 := ⟨H - 80, by omega⟩
  have F := hC.1.1
  have t1 : 1 ≤ (trS σ).1 := hC.t1
  have L := hC.len
  have hE : EdP b n s n0 τ M0 K.length ps tl (trS σ).1 (fun v M' => Q (some (.int v)) M') ((emM b n m τ 40 j i K.length σ).bind fun r => .ok (r.1, trP1 r.2.1 (emT (trS r.2.1) r.2.2).1, (emT (trS r.2.1) r.2.2).2)) := hE
  have vx : ∀ (M2 : Mem) (f : Int32) (p x : Nat) (B : Nat), B ≤ 10 → CX n0 τ M0 (s + 70) B M2 f p ps tl (trS σ).1 → EdP b n s n0 τ M0 K.length ps tl (trS σ).1 (fun v M' => Q (some (.int v)) M') (.error (f, p)) → DX4_readEmit_134 (H + 79) 14 (Int32.ofNat x) M2 Q := by
    intro M2 f p x B hB10 X2 hq
    have F2 := X2.1.1
    unfold DX4_readEmit_134
    exact ⟨ok14 F2, 4, rf14_1 F2, ok4 F2, V_op X2 (fun Θ hT _ h1 => ⟨emT Θ x, ts_em h1, fun Q' H' => S_em F2 hT H'⟩) (fun M' v t' X' ht hv _ => ⟨_, rfl, hq.er X' hB10 hv ht⟩)⟩
  unfold emM at hE
  refine KX4_readEmit ?_
  unfold DX4_readEmit_0 DX4_readEmit_35
  refine ⟨ok14 F, 15, rf14_0 F, ok15 F, Z_emitted hB hC (fun hk k e hl hro _ => ⟨_, rfl, ?_⟩) (fun hk e M4 X4 _ => ⟨_, rfl, ?_⟩) (fun hk M4 X4 _ => ⟨_, rfl, ?_⟩)⟩
  · rw [if_pos hk, e] at hE
    have hE : EdP b n s n0 τ M0 K.length ps tl (trS σ).1 (fun v M' => Q (some (.int v)) M') ((if τ.2.1.getD k 0 = 30 then _ else _ : Except (Int32 × Nat) (Nat × PS × Nat)).bind _) := hE
    rw [if_neg hro] at hE
    have k16 := hC.2.1.env.2.1.1
    have pl : mI M 15 10 = Int32.ofNat (tP b n i) := hC.1.2.2.2.2.2.2.1
    refine ⟨15, rf14_0 F, ok15 F, Z_adv hS hC (by rw [hk]; decide) ?_⟩
    cases ea : adv' b n i with
    | error y =>
      rw [ea] at hE
      intro M8 X8 _
      have F8 := X8.1.1
      refine ⟨rfl, fun z => absurd z (oi_ne (by omega)), fun _ => ⟨15, rf14_0 F8, ok15 F8, fun z => absurd z (by rw [X8.1.2.2.1]; exact X8.1.2.2.2.1), fun _ => ?_⟩⟩
      exact EdP.er (v := 0) hE X8 (by decide) t1 (Nat.le_refl _)
    | ok i2 =>
      rw [ea] at hE
      have hE : EdP b n s n0 τ M0 K.length ps tl (trS σ).1 (fun v M' => Q (some (.int v)) M') ((if τ.2.2.1.getD k 0 = 0 then _ else _ : Except (Int32 × Nat) (Nat × PS × Nat)).bind _) := hE
      intro M8 C8 _
      have F8 := C8.1.1
      have hV := C8.2.1.env
      obtain ⟨-, -, -, -, -, -, -, -, h27, ⟨c1, c2, c3⟩, -⟩ := id hV
      have kd : mI M8 15 9 = tK b n i2 := C8.1.kind
      refine ⟨rfl, fun z => absurd z (oi_ne (by omega)), fun _ => ⟨15, rf14_0 F8, ok15 F8, fun _ => ⟨n0, C8.2.1.nz.2.2.2.2.2.1, hV.1, n0 + 3, h27, c1, by rw [c2]; exact vp_of (by omega) (by decide), ?_, ?_⟩, fun z => absurd C8.1.2.2.2.2.2.2.2.2.1 z⟩⟩
      · rw [lt32 (by omega), c3 k hl]
        intro mx
        rw [if_pos mx] at hE
        unfold DX4_readEmit_54 DX4_readEmit_75
        refine ⟨ok14 F8, 15, rf14_0 F8, ok15 F8, fun z => ?_, fun z => ?_⟩
        · rw [kd] at z
          rw [if_neg (fun y => z y.2)] at hE
          refine ⟨fun _ => ⟨fun _ => ?_, fun y => absurd rfl y⟩, fun y => absurd rfl y⟩
          unfold DX4_readEmit_134
          refine ⟨ok14 F8, 4, rf14_1 F8, ok4 F8, S_em F8 C8.2.1.trp (fun M9 T9 k9 _ => ⟨_, rfl, ?_⟩)⟩
          exact hE.ok' (C8.tree k9 T9)
        · rw [kd] at z
          rw [if_pos ⟨rfl, z⟩] at hE
          refine ⟨fun y => absurd y (by decide), fun _ => ⟨ok14 F8, 15, rf14_0 F8, ok15 F8, A_failAt C8.1 (by decide) pl (fun M9 T9 k9 _ => ⟨rfl, ?_⟩)⟩⟩
          exact vx M9 _ _ k 0 (by decide) (C8.x k9 T9) hE
      · rw [lt32 (by omega), c3 k hl]
        intro mx
        rw [if_neg mx] at hE
        unfold DX4_readEmit_54 DX4_readEmit_75
        refine ⟨ok14 F8, 15, rf14_0 F8, ok15 F8, fun z => ?_, fun z => ?_⟩
        · rw [kd] at z
          rw [if_neg (fun y => z y.2)] at hE
          refine ⟨fun y => absurd y (by decide), fun _ => ⟨ok14 F8, 15, rf14_0 F8, ok15 F8, A_failAt C8.1 (by decide) pl (fun M9 T9 k9 _ => ⟨rfl, ?_⟩)⟩⟩
          exact vx M9 _ _ k 0 (by decide) (C8.x k9 T9) hE
        · rw [kd] at z
          rw [if_pos ⟨rfl, z⟩] at hE
          refine ⟨fun _ => ⟨fun y => absurd y (by decide), fun _ => ⟨(C8.2.1.part hj).1, fun M9 e9 => ?_⟩⟩, fun y => absurd rfl y⟩
          have C9 := C8.pt hj e9
          intro M10 e10
          have C10 := C9.pt hj e10
          have F10 := C10.1.1
          have N10 := C10.2.1.nz
          refine ⟨ok14 F10, n0, N10.2.2.2.2.2.1, N10.2.2.1, n0 + 22, N10.2.2.2.2.2.2.2.2.1, N10.2.2.2.2.1, fun M11 e11 => ?_⟩
          have ln : mI M10 (n0 + 22) 1 = Int32.ofNat σ.2.1.2.2.2.2.2.1.length := by
            obtain ⟨lc, rc, cc, pb, ib, hq⟩ := C10.2.1
            exact hq.2.1.1.2.2.2.1
          rw [ln] at e11
          have C11 := C10.pt hj e11
          refine Z_brk (X := σ.2.2.1) hB hS C11 ho z (by omega) ?_
          have ek : ∀ M12 f p, CX n0 τ M0 (s + 70) 0 M12 f p ps tl (trS σ).1 → EdP b n s n0 τ M0 K.length ps tl (trS σ).1 (fun v M' => Q (some (.int v)) M') (.error (f, p)) → mE M11 M12 → (none : Option Value) = none ∧ ∃ b11, mR M12 14 7 = some b11 ∧ ok M12 b11 3 ∧ ∃ b13, mR M12 b11 8 = some b13 ∧ ok M12 b13 8 ∧ E (H + 79) mdX6_add [.ref b13, .int 0] M12 (fun r M15 => mE M12 M15 → r = none ∧ DX4_readEmit_134 (H + 79) 14 (Int32.ofNat k) M15 Q) := by
            intro M12 f p X12 hq _
            have N12 := X12.nz
            exact ⟨rfl, n0, N12.2.2.2.2.2.1, N12.2.2.1, n0 + 22, N12.2.2.2.2.2.2.2.2.1, N12.2.2.2.2.1, V_stop X12 (by decide) (fun M13 X13 _ => ⟨rfl, vx M13 f p k 1 (by decide) X13 hq⟩)⟩
          by_cases h15 : K.length = 15
          · rw [if_pos h15] at hE ⊢
            exact fun M12 X12 => ek M12 _ _ X12 hE
          · rw [if_neg h15] at hE ⊢
            cases ea2 : adv' b n i2 with
            | error y => rw [ea2] at hE; exact fun M12 X12 => ek M12 _ _ X12 hE
            | ok i3 =>
              rw [ea2] at hE
              have hE : EdP b n s n0 τ M0 K.length ps tl (trS σ).1 (fun v M' => Q (some (.int v)) M') ((((rd b n τ.1 τ.2.2.1 τ.2.2.2.1 6000 3 i3 (K.length + 1) σ.2.2.1 (usS σ)).bind _).bind _ : Except (Int32 × Nat) (Nat × PS × Nat)).bind _) := hE
              show EdS b n s n0 τ M0 K.length σ.2.2.1 _ _ ps tl _ ((rd b n τ.1 τ.2.2.1 τ.2.2.2.1 6000 3 i3 (K.length + 1) σ.2.2.1 (usS σ)).bind _)
              cases er : rd b n τ.1 τ.2.2.1 τ.2.2.2.1 6000 3 i3 (K.length + 1) σ.2.2.1 (usS σ) with
              | error y => rw [er] at hE; exact fun M12 X12 => ek M12 _ _ X12 hE
              | ok r =>
                rw [er] at hE
                have hE : EdP b n s n0 τ M0 K.length ps tl (trS σ).1 (fun v M' => Q (some (.int v)) M') (((ex b n r.1 16).bind _ : Except (Int32 × Nat) (Nat × PS × Nat)).bind _) := hE
                show EdS b n s n0 τ M0 K.length σ.2.2.1 _ _ ps tl _ ((ex b n r.1 16).bind _)
                cases e4 : ex b n r.1 16 with
                | error y => rw [e4] at hE; exact fun M12 X12 => ek M12 _ _ X12 hE
                | ok i4 =>
                  rw [e4] at hE
                  intro M12 C12 l12 _
                  have N12 := C12.2.1.nz
                  refine ⟨rfl, n0, N12.2.2.2.2.2.1, N12.2.2.1, n0 + 22, N12.2.2.2.2.2.2.2.2.1, N12.2.2.2.2.1, Z_stop C12 l12 (fun M13 C13 _ => ⟨rfl, ?_⟩)⟩
                  have F13 := C13.1.1
                  unfold DX4_readEmit_134
                  refine ⟨ok14 F13, 4, rf14_1 F13, ok4 F13, S_em F13 C13.2.1.trp (fun M14 T14 k14 _ => ⟨_, rfl, ?_⟩)⟩
                  exact hE.ok' (C13.tree k14 T14)
  · rw [if_pos hk] at hE
    have F4 := X4.1.1
    refine ⟨15, rf14_0 F4, ok15 F4, V_adv X4 (fun _ => ⟨rfl, fun _ => ?_, fun z => absurd rfl z⟩)⟩
    rcases e with e | ⟨k, e, hro⟩
    · rw [e] at hE
      exact EdP.er (v := 0) hE X4 (by decide) t1 (Nat.le_refl _)
    · rw [e] at hE
      have hE : EdP b n s n0 τ M0 K.length ps tl (trS σ).1 (fun v M' => Q (some (.int v)) M') ((if τ.2.1.getD k 0 = 30 then _ else _ : Except (Int32 × Nat) (Nat × PS × Nat)).bind _) := hE
      rw [if_pos hro] at hE
      exact EdP.er (v := 0) hE X4 (by decide) t1 (Nat.le_refl _)
  · rw [if_neg hk] at hE
    have F4 := X4.1.1
    refine ⟨15, rf14_0 F4, ok15 F4, V_adv X4 (fun _ => ⟨rfl, fun _ => ?_, fun z => absurd rfl z⟩)⟩
    exact EdP.er (v := 0) hE X4 (by decide) t1 (Nat.le_refl _)
end
