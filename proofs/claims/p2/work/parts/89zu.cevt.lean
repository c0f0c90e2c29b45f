/-! the class reads parts with rows: every, trap; await -/
section
variable {b : Nat → Int32} {n s n0 m : Nat} {τ : Td} {M0 M M' : Mem} {i o j g aw lit : Nat} {γ : ClT} {σ : PS} {K : List KE} {cn : Nat → Nat} {ps ps' : List Nat} {tl : List Int64} {f d : Int32} {p t t' h B t0 t1 v H : Nat} {Q : Option Value → Mem → Prop} {Q1 : Int32 → Mem → Prop} {R0 : Except (Int32 × Nat) (Nat × PS × Nat)} {W : Nat}
/-- every: its tree, behind 'end' -/
theorem Z_ev2 {l : Int32} {w : Nat} (hC : CS b n s n0 τ M0 M i o γ cn ps tl) (hv : v < γ.2.1.1) (hw : w < γ.2.1.1) (H : ∀ M', CS b n s n0 τ M0 M' i o (γ.1, (evT γ.2.1 v w l).1, γ.2.2) cn ps tl → Q (some (.int (Int32.ofNat (evT γ.2.1 v w l).2))) M') : TEv2 (h + 6) l (Int32.ofNat w) (Int32.ofNat v) Q M := by
  have F := hC.1.1
  have t1 := hC.t1
  have a1 := ts_ha (Θ := γ.2.1) t1
  have a2 : Ts (haT γ.2.1).1 (ev1 γ.2.1 v) := ts_pr (a1.one t1)
  have a3 : Ts (ev1 γ.2.1 v).1 (ev2 γ.2.1 v l) := ts_ab (a2.one (a1.one t1))
  have a4 : Ts (ev2 γ.2.1 v l).1 (ev3 γ.2.1 v l) := ts_wr (a3.one (a2.one (a1.one t1)))
  refine ⟨4, rf14_1 F, 4, rf14_1 F, ok4 F, S_ha F hC.2.1.trp (fun M1 T1 k1 _ => ⟨_, rfl, ok4 (k1.fix F), ?_⟩)⟩
  have C1 := hC.tree k1 T1
  refine S_pr C1.1.1 T1 (Nat.lt_of_lt_of_le hv a1.1) a1.2 (fun M2 T2 k2 _ => ⟨_, rfl, ?_⟩)
  have C2 := C1.tree k2 T2
  have F2 := C2.1.1
  refine ⟨4, rf14_1 F2, 4, rf14_1 F2, 4, rf14_1 F2, ok4 F2, S_ab F2 T2 a2.2 (fun M3 T3 k3 _ => ⟨_, rfl, ok4 (k3.fix F2), ?_⟩)⟩
  have C3 := C2.tree k3 T3
  refine S_wr C3.1.1 T3 a3.2 (fun M4 T4 k4 _ => ⟨_, rfl, ok4 (k4.fix C3.1.1), ?_⟩)
  have C4 := C3.tree k4 T4
  refine S_pr C4.1.1 T4 (Nat.lt_of_lt_of_le hw (Nat.le_trans a1.1 (Nat.le_trans a2.1 (Nat.le_trans a3.1 a4.1)))) a4.2 (fun M5 T5 k5 _ => ⟨_, rfl, ?_⟩)
  exact H M5 (C4.tree k5 T5)
theorem Z_ev43 {l : Int32} {w : Nat} (hS : Sto b n s) (hC : CS b n s n0 τ M0 M i o σ.2.1 σ.1.1 ps' tl) (he : ∃ x, ps' = ps ++ x) (hv : v < (trS σ).1) (hw : w < (trS σ).1) (ht : t0 ≤ (trS σ).1) (hE : EdP b n s n0 τ M0 o ps tl t0 (fun v M' => Q (some (.int v)) M') ((ex b n i 43).bind fun i2 => .ok (i2, trP1 σ (evT (trS σ) v w l).1, (evT (trS σ) v w l).2))) : TEv1 (h + 6) l (Int32.ofNat w) (Int32.ofNat v) Q M := by
  have F := hC.1.1
  refine ⟨15, rf14_0 F, ok15 F, Z_expect hS hC (by decide) ?_⟩
  cases e4 : ex b n i 43 with
  | error y =>
    rw [e4] at hE
    intro M5 X5 _
    have X5 : CX n0 τ M0 (s + 70) 0 M5 y.1 y.2 ps' tl (trS σ).1 := X5
    exact ⟨rfl, V_ev2 X5 hv hw (EdP.vend hE he (by decide) ht)⟩
  | ok i3 =>
    rw [e4] at hE
    intro M5 C5 _
    refine ⟨rfl, Z_ev2 C5 hv hw ?_⟩
    rw [show trS σ = σ.2.1.2.1 from rfl] at hE
    generalize evT σ.2.1.2.1 v w l = X at hE ⊢
    exact fun M6 C6 => hE.oke he C6
theorem Z_every {R1 : Nat × PS × Nat × Bool → Nat → Except (Int32 × Nat) (Nat × PS × Nat)} (hB : By b) (hS : Sto b n s) (hC : CS b n s n0 τ M0 M i o σ.2.1 σ.1.1 ps tl) (ho : o ≤ 15) (hH : 67 ≤ H)
    (hT : ∀ (r : Nat × PS × Nat × Bool) (i2 : Nat) (M' : Mem) (Q' : Option Value → Mem → Prop), atM b n m τ j i o σ = .ok r → ex b n r.1 54 = .ok i2 → CS b n s n0 τ M0 M' i2 o (trP1 r.2.1 (awT (trS r.2.1) (Int32.ofNat r.2.2.1) r.2.2.2).1).2.1 r.2.1.1.1 ps tl → EdP b n s n0 τ M0 o ps tl (awT (trS r.2.1) (Int32.ofNat r.2.2.1) r.2.2.2).1.1 (fun v M' => Q' (some (.int v)) M') (R1 r i2) → E H mdX4_readTrapped [.ref 14, .long 0, .int d] M' Q')
    (hR : ∀ r i2 q, atM b n m τ j i o σ = .ok r → ex b n r.1 54 = .ok i2 → R1 r i2 = .ok q → (awT (trS r.2.1) (Int32.ofNat r.2.2.1) r.2.2.2).1.1 ≤ (trS q.2.1).1 ∧ q.2.2 < (trS q.2.1).1)
    (hE : EdP b n s n0 τ M0 o ps tl (trS σ).1 (fun v M' => Q (some (.int v)) M') ((atM b n m τ j i o σ).bind fun r => (ex b n r.1 54).bind fun i2 => (R1 r i2).bind fun q => tlM b n m τ 53 j (awT (trS r.2.1) (Int32.ofNat r.2.2.1) r.2.2.2).2 r.2.2.1 q.2.2 q.1 o q.2.1)) : E (H + 1) mdX4_readEvery [.ref 14, .int d] M Q := by
  obtain ⟨H, rfl⟩ : ∃ H', H = H' + 60 + 7 := ⟨H - 67, by omega⟩
  have F := hC.1.1
  have t1 : 1 ≤ (trS σ).1 := hC.t1
  refine KX4_readEvery ?_
  unfold DX4_readEvery_0
  refine ⟨ok14 F, 15, rf14_0 F, ok15 F, Z_atM (h := H + 7) (j := j) (m := m) (P := fun r5 r7 M6 => TEvw (H + 60 + 7) r7 r5 d Q M6) hB hS hC ho ?_⟩
  cases e1 : atM b n m τ j i o σ with
  | error y =>
    rw [e1] at hE
    exact fun M1 im v X1 => V_evw X1 (EdP.vend hE ⟨[], (List.append_nil _).symm⟩ (by decide) (Nat.le_refl _))
  | ok r =>
    rw [e1] at hE
    obtain ⟨c1, c2⟩ := atM_cl e1
    have tw : Ts (trS r.2.1) (awT (trS r.2.1) (Int32.ofNat r.2.2.1) r.2.2.2) := ts_aw (by rw [c2]; exact t1)
    have tw1 : (trS σ).1 ≤ (awT (trS r.2.1) (Int32.ofNat r.2.2.1) r.2.2.2).1.1 := by have := tw.1; rw [c2] at this ⊢; exact this
    have tw2 := tw.2
    have hE : EdP b n s n0 τ M0 o ps tl (trS σ).1 (fun v M' => Q (some (.int v)) M') ((ex b n r.1 54).bind fun i2 => (R1 r i2).bind fun q => tlM b n m τ 53 j (awT (trS r.2.1) (Int32.ofNat r.2.2.1) r.2.2.2).2 r.2.2.1 q.2.2 q.1 o q.2.1) := hE
    intro M1 C1
    have F1 := C1.1.1
    refine ⟨4, rf14_1 F1, ok4 F1, S_aw F1 C1.2.1.trp (fun M2 T2 k2 _ => ⟨_, rfl, ?_⟩)⟩
    have C2 : CS b n s n0 τ M0 M2 r.1 o (trP1 r.2.1 (awT (trS r.2.1) (Int32.ofNat r.2.2.1) r.2.2.2).1).2.1 σ.1.1 ps tl := C1.tree k2 T2
    rw [← c1] at C2
    have F2 := C2.1.1
    refine ⟨15, rf14_0 F2, ok15 F2, Z_expect hS C2 (by decide) ?_⟩
    cases e2 : ex b n r.1 54 with
    | error y =>
      rw [e2] at hE
      intro M3 X3 _
      have X3 : CX n0 τ M0 (s + 70) 0 M3 y.1 y.2 ps tl (awT (trS r.2.1) (Int32.ofNat r.2.2.1) r.2.2.2).1.1 := X3
      exact ⟨rfl, V_evx X3 tw2 (EdP.vend hE ⟨[], (List.append_nil _).symm⟩ (by decide) tw1)⟩
    | ok i2 =>
      rw [e2] at hE
      have hE : EdP b n s n0 τ M0 o ps tl (trS σ).1 (fun v M' => Q (some (.int v)) M') ((R1 r i2).bind fun q => tlM b n m τ 53 j (awT (trS r.2.1) (Int32.ofNat r.2.2.1) r.2.2.2).2 r.2.2.1 q.2.2 q.1 o q.2.1) := hE
      intro M3 C3 _
      refine ⟨rfl, hT r i2 M3 _ e1 e2 C3 ?_⟩
      cases e3 : R1 r i2 with
      | error y =>
        rw [e3] at hE
        intro M4 ps4 v t4 X4 he hv ht _
        exact ⟨_, rfl, V_ev1 (h := H + 61) X4 hv (Nat.lt_of_lt_of_le tw2 ht) (EdP.vend hE he (Nat.le_refl _) (Nat.le_trans tw1 ht))⟩
      | ok q =>
        rw [e3] at hE
        obtain ⟨q1, q2⟩ := hR r i2 q e1 e2 e3
        have hE : EdP b n s n0 τ M0 o ps tl (trS σ).1 (fun v M' => Q (some (.int v)) M') ((ex b n q.1 43).bind fun i2 => .ok (i2, trP1 q.2.1 (evT (trS q.2.1) q.2.2 (awT (trS r.2.1) (Int32.ofNat r.2.2.1) r.2.2.2).2 (Int32.ofNat r.2.2.1)).1, (evT (trS q.2.1) q.2.2 (awT (trS r.2.1) (Int32.ofNat r.2.2.1) r.2.2.2).2 (Int32.ofNat r.2.2.1)).2)) := hE
        intro M4 ps4 C4 he _
        exact ⟨_, rfl, Z_ev43 (h := H + 61) hS C4 he q2 (Nat.lt_of_lt_of_le tw2 q1) (Nat.le_trans tw1 q1) hE⟩
theorem Z_trap {R1 : Nat → Except (Int32 × Nat) (Nat × PS × Nat)} (hB : By b) (hS : Sto b n s) (hC : CS b n s n0 τ M0 M i o γ cn ps (tlK K)) (hH : 20 ≤ H) (ht0 : t0 ≤ γ.2.1.1)
    (hT : ∀ (i3 : Nat) (M' : Mem) (Q' : Option Value → Mem → Prop), tK b n i = 2 → ¬ (toT (tC b n i) τ = true ∨ (trW K (tC b n i)).isSome = true) → ((adv' b n i).bind fun i2 => ex b n i2 56) = .ok i3 → CS b n s n0 τ M0 M' i3 o γ cn ps (tlK K) → EdP b n s n0 τ M0 o ps (tlK K) t0 (fun v M' => Q' (some (.int v)) M') (R1 i3) → E H mdX4_readTrapped [.ref 14, .long (tC b n i), .int d] M' Q')
    (hR : ∀ i3 q, tK b n i = 2 → ¬ (toT (tC b n i) τ = true ∨ (trW K (tC b n i)).isSome = true) → ((adv' b n i).bind fun i2 => ex b n i2 56) = .ok i3 → R1 i3 = .ok q → t0 ≤ (trS q.2.1).1 ∧ q.2.2 < (trS q.2.1).1)
    (hE : EdP b n s n0 τ M0 o ps (tlK K) t0 (fun v M' => Q (some (.int v)) M') (if tK b n i = 2 then (if toT (tC b n i) τ = true ∨ (trW K (tC b n i)).isSome = true then .error (3, tP b n i) else ((adv' b n i).bind fun i2 => ex b n i2 56).bind fun i3 => (R1 i3).bind fun q => tlM b n m τ 55 j aw lit q.2.2 q.1 o q.2.1) else .error (2, tP b n i))) : E (H + 1) mdX4_readTrap [.ref 14, .int d] M Q := by
  obtain ⟨H, rfl⟩ : ∃ H', H = H' + 13 + 7 := ⟨H - 20, by omega⟩
  have F := hC.1.1
  have N := hC.2.1.nz
  have kd : mI M 15 9 = tK b n i := hC.1.kind
  refine KX4_readTrap ?_
  unfold DX4_readTrap_0
  refine ⟨ok14 F, 15, rf14_0 F, ok15 F, 15, rf14_0 F, ok15 F, fun z => ?_, fun z => ⟨15, rf14_0 F, ok15 F, Z_fail hC (by decide) (fun M1 X1 _ => ⟨rfl, ?_⟩)⟩⟩
  · rw [kd] at z
    rw [if_pos z] at hE
    rw [hC.1.word hB z]
    have bad : (toT (tC b n i) τ = true ∨ (trW K (tC b n i)).isSome = true) → DX4_readTrap_50 (H + 13 + 7) 14 d (tC b n i) M Q := by
      intro y
      rw [if_pos y] at hE
      unfold DX4_readTrap_50
      exact ⟨ok14 F, 15, rf14_0 F, ok15 F, Z_fail hC (by decide) (fun M1 X1 _ => ⟨rfl, V_tr58 (h := H + 13) X1 (EdP.vend hE ⟨[], (List.append_nil _).symm⟩ (by decide) ht0)⟩)⟩
    have r2 := hC.2.1.rd.1.2.1
    refine ⟨n0, N.2.2.2.2.2.1, N.2.2.1, S_isTold hC.2.1.env (fun _ => ⟨_, rfl, fun y => bad (Or.inl ?_), fun y => S_trapsW F hC.2.1 (fun _ => ⟨_, rfl, fun y2 => ?_, fun y2 => bad (Or.inr ?_)⟩)⟩)⟩
    · by_cases w : toT (tC b n i) τ = true
      · exact w
      · exact absurd (if_neg w) y
    · have w1 : ¬ toT (tC b n i) τ = true := fun w => by
        have : (if ((fd τ.1 (tC b n i)).isSome || (fd τ.2.2.2.1 (tC b n i)).isSome) = true then (1 : Int32) else 0) = 1 := if_pos w
        rw [this] at y
        exact absurd y (by decide)
      have w2 : ¬ (trW K (tC b n i)).isSome = true := fun w => by
        rw [← trW_fd K] at y2
        cases e : trW K (tC b n i) with
        | none => rw [e] at w; cases w
        | some q =>
          have ql : q.1 < 1000 := by
            have := (fd_some (c := tC b n i) (l := tlK K) (k := q.1) (by rw [← trW_fd K, e]; rfl)).1
            omega
          rw [e] at y2
          exact absurd y2 (oi_ne ql)
      have nw : ¬ (toT (tC b n i) τ = true ∨ (trW K (tC b n i)).isSome = true) := by
        rintro (q | q)
        · exact w1 q
        · exact w2 q
      rw [if_neg nw] at hE
      unfold DX4_readTrap_58
      refine ⟨ok14 F, 15, rf14_0 F, ok15 F, Z_adv hS hC (by rw [z]; decide) ?_⟩
      cases ea : adv' b n i with
      | error q =>
        rw [ea] at hE
        intro M1 X1 _
        have F1 := X1.1.1
        exact ⟨rfl, 15, rf14_0 F1, ok15 F1, V_expect X1 (by decide) (fun _ => ⟨rfl, V_trx X1 (EdP.vend hE ⟨[], (List.append_nil _).symm⟩ (by decide) ht0)⟩)⟩
      | ok i2 =>
        have fe : ((adv' b n i).bind fun i2 => ex b n i2 56) = ex b n i2 56 := by rw [ea]; rfl
        rw [fe] at hE
        intro M1 C1 _
        have F1 := C1.1.1
        refine ⟨rfl, 15, rf14_0 F1, ok15 F1, Z_expect hS C1 (by decide) ?_⟩
        cases e6 : ex b n i2 56 with
        | error q =>
          rw [e6] at hE
          intro M2 X2 _
          exact ⟨rfl, V_trx X2 (EdP.vend hE ⟨[], (List.append_nil _).symm⟩ (by decide) ht0)⟩
        | ok i3 =>
          rw [e6] at hE fe
          have hE : EdP b n s n0 τ M0 o ps (tlK K) t0 (fun v M' => Q (some (.int v)) M') ((R1 i3).bind fun q => tlM b n m τ 55 j aw lit q.2.2 q.1 o q.2.1) := hE
          intro M2 C2 _
          refine ⟨rfl, hT i3 M2 _ z nw fe C2 ?_⟩
          cases e7 : R1 i3 with
          | error q =>
            rw [e7] at hE
            intro M3 ps3 v t3 X3 he hv ht _
            exact ⟨_, rfl, V_tr1 (h := H + 14) X3 hv (EdP.vend hE he (Nat.le_refl _) ht)⟩
          | ok q =>
            rw [e7] at hE
            obtain ⟨q1, q2⟩ := hR i3 q z nw fe e7
            have hE : EdP b n s n0 τ M0 o ps (tlK K) t0 (fun v M' => Q (some (.int v)) M') ((ex b n q.1 43).bind fun i2 => .ok (i2, trP1 q.2.1 (wrT (trS q.2.1) 9 q.2.2).1, (wrT (trS q.2.1) 9 q.2.2).2)) := hE
            intro M3 ps3 C3 he _
            have F3 := C3.1.1
            refine ⟨_, rfl, 15, rf14_0 F3, ok15 F3, Z_expect hS C3 (by decide) ?_⟩
            cases e8 : ex b n q.1 43 with
            | error w =>
              rw [e8] at hE
              intro M4 X4 _
              have X4 : CX n0 τ M0 (s + 70) 0 M4 w.1 w.2 ps3 (tlK K) (trS q.2.1).1 := X4
              exact ⟨rfl, V_tr2 (h := H + 14) X4 q2 (EdP.vend hE he (by decide) q1)⟩
            | ok i4 =>
              rw [e8] at hE
              intro M4 C4 _
              have F4 := C4.1.1
              refine ⟨rfl, 4, rf14_1 F4, ok4 F4, S_wr F4 C4.2.1.trp q2 (fun M5 T5 k5 _ => ⟨_, rfl, ?_⟩)⟩
              exact hE.oke he (C4.tree k5 T5)
    · rw [← trW_fd K] at y2
      cases e : trW K (tC b n i) with
      | none => rw [e] at y2; exact absurd rfl y2
      | some q => rfl
  · rw [kd] at z
    rw [if_neg z] at hE
    exact V_tr58 (h := H + 13) X1 (EdP.vend hE ⟨[], (List.append_nil _).symm⟩ (by decide) ht0)
/-- await -/
theorem Z_await {w : Int64} (hB : By b) (hS : Sto b n s) (hC : CS b n s n0 τ M0 M i K.length σ.2.1 σ.1.1 ps tl) (ho : K.length ≤ 15) (hE : EdP b n s n0 τ M0 K.length ps tl (trS σ).1 (fun v M' => Q (some (.int v)) M') (lfM b n m τ 47 w j i K σ)) : E (h + 60) mdX7_accept [.ref 15, .int 48] M (fun r M9 => mE M M9 → ∃ r10 : Int32, r = some (.int r10) ∧ ∃ b11 : Nat, mR M9 14 1 = some b11 ∧ E (h + 60) mdX4_readCondition [.ref 14] M9 (fun r M11 => mE M9 M11 → ∃ r12 : Int32, r = some (.int r12) ∧ ok M11 b11 10 ∧ E (h + 60) mdX8_await [.ref b11, .int r12, .int r10] M11 (fun r M13 => mE M11 M13 → ∃ r14 : Int32, r = some (.int r14) ∧ Q (some (.int r14)) M13))) := by
  have hE : EdP b n s n0 τ M0 K.length ps tl (trS σ).1 (fun v M' => Q (some (.int v)) M') ((atM b n m τ j i K.length σ).bind fun r => .ok (r.1, trP1 r.2.1 (awT (trS r.2.1) (Int32.ofNat r.2.2.1) r.2.2.2).1, (awT (trS r.2.1) (Int32.ofNat r.2.2.1) r.2.2.2).2)) := hE
  have hcl := fun r => atM_cl (b := b) (n := n) (m := m) (τ := τ) (j := j) (i := i) (o := K.length) (σ := σ) (r := r)
  unfold atM imM at hE hcl
  have vx : ∀ (M1 : Mem) (f : Int32) (p : Nat) (im : Bool) (l : Int32), CX n0 τ M0 (s + 70) 0 M1 f p ps tl (trS σ).1 → EdP b n s n0 τ M0 K.length ps tl (trS σ).1 (fun v M' => Q (some (.int v)) M') (.error (f, p)) → E (h + 60) mdX8_await [.ref 4, .int l, .int (b32 im)] M1 (fun r M13 => mE M1 M13 → ∃ r14 : Int32, r = some (.int r14) ∧ Q (some (.int r14)) M13) := by
    intro M1 f p im l X1 hq
    exact V_op X1 (fun Θ hT ht h0 => ⟨awT Θ l im, ts_aw h0, fun Q' H' => S_aw X1.1.1 hT H'⟩) (fun M2 w1 t1 X2 q1 u1 _ => ⟨_, rfl, hq.er X2 (by decide) u1 q1⟩)
  have go : ∀ (M1 : Mem) (i1 : Nat) (im : Bool), CS b n s n0 τ M0 M1 i1 K.length σ.2.1 σ.1.1 ps tl → (∀ r, ((coM b n m τ j i1 K.length (if im = true then raP σ (up2 σ.1.2.1 61 (40 * m + j) 1) else σ)).bind fun q => .ok (q.1, q.2.1, q.2.2, im) : Except (Int32 × Nat) (Nat × PS × Nat × Bool)) = .ok r → r.2.1.1.1 = σ.1.1 ∧ trS r.2.1 = trS σ) → EdP b n s n0 τ M0 K.length ps tl (trS σ).1 (fun v M' => Q (some (.int v)) M') (((coM b n m τ j i1 K.length (if im = true then raP σ (up2 σ.1.2.1 61 (40 * m + j) 1) else σ)).bind fun q => .ok (q.1, q.2.1, q.2.2, im) : Except (Int32 × Nat) (Nat × PS × Nat × Bool)).bind fun r => .ok (r.1, trP1 r.2.1 (awT (trS r.2.1) (Int32.ofNat r.2.2.1) r.2.2.2).1, (awT (trS r.2.1) (Int32.ofNat r.2.2.1) r.2.2.2).2)) → E (h + 60) mdX4_readCondition [.ref 14] M1 (fun r M11 => mE M1 M11 → ∃ r12 : Int32, r = some (.int r12) ∧ ok M11 4 10 ∧ E (h + 60) mdX8_await [.ref 4, .int r12, .int (b32 im)] M11 (fun r M13 => mE M11 M13 → ∃ r14 : Int32, r = some (.int r14) ∧ Q (some (.int r14)) M13)) := by
    intro M1 i1 im C1 hc hq
    have e1 : (if im = true then raP σ (up2 σ.1.2.1 61 (40 * m + j) 1) else σ).2 = σ.2 := by cases im <;> rfl
    generalize (if im = true then raP σ (up2 σ.1.2.1 61 (40 * m + j) 1) else σ) = σ1 at hq e1 hc
    have C1 : CS b n s n0 τ M0 M1 i1 K.length σ1.2.1 σ.1.1 ps tl := by rw [e1]; exact C1
    refine Z_coM (j := j) (m := m) hB hS C1 ho (by omega) ?_
    have e2 : (trS σ1).1 = (trS σ).1 := by show σ1.2.1.2.1.1 = _; rw [e1]; rfl
    cases e : coM b n m τ j i1 K.length σ1 with
    | error y => rw [e] at hq; exact fun M' v X' _ => ⟨_, rfl, ok4 X'.1.1, vx M' _ _ im v (by rw [← e2]; exact X') hq⟩
    | ok q =>
      rw [e] at hq hc
      obtain ⟨c1, -⟩ := hc (q.1, q.2.1, q.2.2, im) rfl
      have c1 : q.2.1.1.1 = σ.1.1 := c1
      intro M' C' _
      refine ⟨_, rfl, ok4 C'.1.1, S_aw C'.1.1 C'.2.1.trp (fun M2 T2 k2 _ => ⟨_, rfl, ?_⟩)⟩
      have C2 := C'.tree k2 T2
      rw [← c1] at C2
      exact hq.ok' C2
  refine Z_accept hS hC (by decide) (fun k => ?_) (fun k _ => ⟨_, rfl, 4, rf14_1 hC.1.1, ?_⟩)
  · rw [if_pos k] at hE
    cases ea : adv' b n i with
    | error y =>
      rw [ea] at hE
      exact fun M1 X1 _ => ⟨_, rfl, 4, rf14_1 X1.1.1, V_cond X1 (by omega) (fun _ => ⟨_, rfl, ok4 X1.1.1, vx M1 _ _ true 0 X1 hE⟩)⟩
    | ok i1 =>
      rw [ea] at hE
      refine fun M1 C1 _ => ⟨_, rfl, 4, rf14_1 C1.1.1, go M1 i1 true C1 (fun r hr => ?_) hE⟩
      refine hcl r ?_
      rw [if_pos k, ea]
      exact hr
  · rw [if_neg k] at hE
    refine go M i false hC (fun r hr => ?_) hE
    refine hcl r ?_
    rw [if_neg k]
    exact hr
end
