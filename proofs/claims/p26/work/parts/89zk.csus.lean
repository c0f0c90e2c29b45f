section
/-! the class reads parts: sustain, exit, assign -/
section
variable {b : Nat → Int32} {n s n0 m : Nat} {τ : Td} {M0 M M' : Mem} {i o i' o' j : Nat} {γ : ClT} {σ : PS} {K : List KE} {cn cn' : Nat → Nat} {ps : List Nat} {tl : List Int64} {f c : Int32} {p t t' h B t0 : Nat} {Q : Option Value → Mem → Prop} {Q1 : Int32 → Mem → Prop} {W : Nat}
theorem Z_sust {w : Int64} {H : Nat} (hB : By b) (hS : Sto b n s) (hC : CS b n s n0 τ M0 M i K.length σ.2.1 σ.1.1 ps tl) (hH : 80 ≤ H) (hE : EdP b n s n0 τ M0 K.length ps tl (trS σ).1 (fun v M' => Q (some (.int v)) M') (lfM b n m τ 41 w j i K σ)) : E H mdX4_readSustain [.ref 14] M Q := by
  obtain ⟨H, rfl⟩ : ∃ H', H = H' + 80 := ⟨H - 80, by omega⟩
  have F := hC.1.1
  have t1 : 1 ≤ (trS σ).1 := hC.t1
  have hE : EdP b n s n0 τ M0 K.length ps tl (trS σ).1 (fun v M' => Q (some (.int v)) M') ((emM b n m τ 41 j i K.length σ).bind fun r => .ok (r.1, trP1 r.2.1 (stT (trS r.2.1) r.2.2).1, (stT (trS r.2.1) r.2.2).2)) := hE
  unfold emM at hE
  refine KX4_readSustain ?_
  unfold DX4_readSustain_0 DX4_readSustain_35 DX4_readSustain_58
  refine ⟨ok14 F, 15, rf14_0 F, ok15 F, Z_emitted hB hC (fun hk k e hl hro _ => ⟨_, rfl, ?_⟩) (fun hk e M4 X4 _ => ⟨_, rfl, ?_⟩) (fun hk M4 X4 _ => ⟨_, rfl, ?_⟩)⟩
  · rw [if_pos hk, e] at hE
    have hE : EdP b n s n0 τ M0 K.length ps tl (trS σ).1 (fun v M' => Q (some (.int v)) M') ((if τ.2.1.getD k 0 = 30 then _ else _ : Except (Int32 × Nat) (Nat × PS × Nat)).bind _) := hE
    rw [if_neg hro] at hE
    have k16 := hC.2.1.env.2.1.1
    have pl : mI M 15 10 = Int32.ofNat (tP b n i) := hC.1.2.2.2.2.2.2.1
    refine ⟨15, rf14_0 F, ok15 F, Z_adv hS hC (by rw [hk]; decide) ?_⟩
    cases ea : adv' b n i with
    | error y =>
      rw [ea] at hE
      intro M8 X8 _
      have F8 := X8.1.1
      refine ⟨rfl, fun z => absurd z (oi_ne (by omega)), fun _ => ⟨15, rf14_0 F8, ok15 F8, fun z => absurd z (by rw [X8.1.2.2.1]; exact X8.1.2.2.2.1), fun _ => ?_⟩⟩
      exact EdP.er (v := 0) hE X8 (by decide) t1 (Nat.le_refl _)
    | ok i2 =>
      rw [ea] at hE
      have hE : EdP b n s n0 τ M0 K.length ps tl (trS σ).1 (fun v M' => Q (some (.int v)) M') ((if τ.2.2.1.getD k 0 = 0 then _ else _ : Except (Int32 × Nat) (Nat × PS × Nat)).bind _) := hE
      intro M8 C8 _
      have F8 := C8.1.1
      have hV := C8.2.1.env
      obtain ⟨-, -, -, -, -, -, -, -, h27, ⟨c1, c2, c3⟩, -⟩ := id hV
      refine ⟨rfl, fun z => absurd z (oi_ne (by omega)), fun _ => ⟨15, rf14_0 F8, ok15 F8, fun _ => ⟨n0, C8.2.1.nz.2.2.2.2.2.1, hV.1, n0 + 3, h27, c1, by rw [c2]; exact vp_of (by omega) (by decide), ?_, ?_⟩, fun z => absurd C8.1.2.2.2.2.2.2.2.2.1 z⟩⟩
      · rw [lt32 (by omega), c3 k hl]
        intro mx
        rw [if_pos mx, if_neg (fun y => absurd y.1 (by decide))] at hE
        refine ⟨ok14 F8, 4, rf14_1 F8, ok4 F8, S_st F8 C8.2.1.trp (fun M9 T9 k9 _ => ⟨_, rfl, ?_⟩)⟩
        exact hE.ok' (C8.tree k9 T9)
      · rw [lt32 (by omega), c3 k hl]
        intro mx
        rw [if_neg mx, if_neg (fun y => absurd y.1 (by decide))] at hE
        refine ⟨15, rf14_0 F8, ok15 F8, A_failAt C8.1 (by decide) pl (fun M9 T9 k9 _ => ⟨rfl, ?_⟩)⟩
        have X9 := C8.x (B := 0) k9 T9
        have F9 := X9.1.1
        exact ⟨ok14 F9, 4, rf14_1 F9, ok4 F9, V_op X9 (fun Θ hT _ h1 => ⟨stT Θ k, ts_st h1, fun Q' H' => S_st F9 hT H'⟩) (fun M' v t' X' ht hv _ => ⟨_, rfl, EdP.er hE X' (by decide) hv ht⟩)⟩
  · rw [if_pos hk] at hE
    have F4 := X4.1.1
    refine ⟨15, rf14_0 F4, ok15 F4, V_adv X4 (fun _ => ⟨rfl, fun _ => ?_, fun z => absurd rfl z⟩)⟩
    rcases e with e | ⟨k, e, hro⟩
    · rw [e] at hE
      exact EdP.er (v := 0) hE X4 (by decide) t1 (Nat.le_refl _)
    · rw [e] at hE
      have hE : EdP b n s n0 τ M0 K.length ps tl (trS σ).1 (fun v M' => Q (some (.int v)) M') ((if τ.2.1.getD k 0 = 30 then _ else _ : Except (Int32 × Nat) (Nat × PS × Nat)).bind _) := hE
      rw [if_pos hro] at hE
      exact EdP.er (v := 0) hE X4 (by decide) t1 (Nat.le_refl _)
  · rw [if_neg hk] at hE
    have F4 := X4.1.1
    refine ⟨15, rf14_0 F4, ok15 F4, V_adv X4 (fun _ => ⟨rfl, fun _ => ?_, fun z => absurd rfl z⟩)⟩
    exact EdP.er (v := 0) hE X4 (by decide) t1 (Nat.le_refl _)
/-- the traps within the named one -/
theorem ctrap_loop {c : Int64} (F : Fix M) (h3 : mI M 14 3 = Int32.ofNat tl.length) (h16 : tl.length ≤ 16) (hr : ∀ j, j < tl.length → mAJ M 20 j = tl.getD (tl.length - 1 - j) 0) : ∀ (l : List Int64) (j : Nat), j + l.length = tl.length → (∀ m, m < l.length → tl.getD (j + m) 0 = l.getD m 0) → Q (some (.int (oj j (fd l c)))) M → T (h + 1) mdX4_trapsWithin 2 [(0, .ref 14), (1, .long c), (3, .int (Int32.ofNat j))] [] M Q := by
  intro l
  induction l with
  | nil =>
    intro j hj _ H
    refine VX4_trapsWithin_2 ?_
    unfold DX4_trapsWithin_2
    have hj : j = tl.length := hj
    rw [h3]
    refine ⟨ok14 F, fun _ => H, fun hc => absurd ((le32 (by omega) (by omega)).mpr (by omega)) hc⟩
  | cons x l ih =>
    intro j hj hv H
    have hj : j + (l.length + 1) = tl.length := hj
    refine VX4_trapsWithin_2 ?_
    unfold DX4_trapsWithin_2
    have e1 : Int32.ofNat tl.length - 1 - Int32.ofNat j = Int32.ofNat (tl.length - 1 - j) := by
      rw [show tl.length = (tl.length - 1) + 1 by omega, dec32 (by omega), sub32 (by omega) (by omega)]
      congr 1
    rw [h3, e1, lt32 (by omega), succ32]
    have v0 : mAJ M 20 (tl.length - 1 - j) = x := by
      rw [hr _ (by omega), show tl.length - 1 - (tl.length - 1 - j) = j + 0 by omega]
      exact hv 0 (Nat.zero_lt_succ _)
    unfold fd at H
    refine ⟨ok14 F, fun hc => absurd ((le32 (by omega) (by omega)).mp hc) (by omega), fun _ => ⟨20, rf14_2 F, ok20 F, by rw [ln20 F]; exact vp_of (by omega) (by decide), fun hc => ?_, fun hc => ?_⟩⟩
    · rw [v0, lgz] at hc
      rw [if_neg hc, oj_map] at H
      refine ih (j + 1) (by omega) (fun m hm => ?_) H
      have := hv (m + 1) (Nat.succ_lt_succ hm)
      rw [show j + 1 + m = j + (m + 1) by omega, this]
      rfl
    · rw [v0, lgz] at hc
      rw [if_pos hc] at H
      exact H
theorem S_trapsW {c : Int64} (F : Fix M) (hC : CQ n0 τ M0 M γ cn ps tl) (H : Q (some (.int (oi (fd tl c)))) M) : E (h + 1) mdX4_trapsWithin [.ref 14, .long c] M Q := by
  obtain ⟨⟨r1, r2, r3⟩, -⟩ := hC.rd
  refine KX4_trapsWithin ?_
  unfold DX4_trapsWithin_0
  refine ctrap_loop F r1 r2 r3 tl 0 (Nat.zero_add _) (fun m hm => by rw [Nat.zero_add]) ?_
  have e : oj 0 (fd tl c) = oi (fd tl c) := by
    cases fd tl c with
    | none => rfl
    | some k => show Int32.ofNat (0 + k) = Int32.ofNat k; rw [Nat.zero_add]
  rw [e]
  exact H
theorem trW_fd {c : Int64} : ∀ K : List KE, (trW K c).map (fun r => r.1) = fd (tlK K) c := by
  intro K
  induction K with
  | nil => rfl
  | cons e K ih =>
    unfold trW
    cases h : e.2.2.2 with
    | none =>
      show (trW K c).map (fun r => r.1) = fd (tlK (e :: K)) c
      have : tlK (e :: K) = tlK K := by unfold tlK; rw [List.filterMap_cons, h]
      rw [this]; exact ih
    | some x =>
      have : tlK (e :: K) = x :: tlK K := by unfold tlK; rw [List.filterMap_cons, h]
      rw [this]
      unfold fd
      show (if x = c then some (0, e.1) else (trW K c).map fun r => (r.1 + 1, r.2)).map (fun r => r.1) = _
      by_cases q : x = c
      · rw [if_pos q, if_pos q]; rfl
      · rw [if_neg q, if_neg q, ← ih]
        cases trW K c with
        | none => rfl
        | some r => rfl
theorem Z_exit {w : Int64} {H : Nat} (hB : By b) (hS : Sto b n s) (hC : CS b n s n0 τ M0 M i K.length σ.2.1 σ.1.1 ps (tlK K)) (hH : 10 ≤ H) (hE : EdP b n s n0 τ M0 K.length ps (tlK K) (trS σ).1 (fun v M' => Q (some (.int v)) M') (lfM b n m τ 57 w j i K σ)) : E H mdX4_readExit [.ref 14] M Q := by
  obtain ⟨H, rfl⟩ : ∃ H', H = H' + 10 := ⟨H - 10, by omega⟩
  have F := hC.1.1
  have t1 : 1 ≤ (trS σ).1 := hC.t1
  have kd : mI M 15 9 = tK b n i := hC.1.kind
  have hE : EdP b n s n0 τ M0 K.length ps (tlK K) (trS σ).1 (fun v M' => Q (some (.int v)) M') (if tK b n i = 2 then (match trW K (tC b n i) with
      | none => .error (4, tP b n i)
      | some q => (adv' b n i).bind fun i2 => .ok (i2, trP1 (raP σ (up2 σ.1.2.1 60 (40 * m + j) (Int32.ofNat q.2))) (exT (trS σ) q.1).1, (exT (trS σ) q.1).2))
    else .error (2, tP b n i)) := hE
  refine KX4_readExit ?_
  unfold DX4_readExit_0
  refine ⟨ok14 F, 15, rf14_0 F, ok15 F, fun z => ?_, fun z => ?_⟩
  · rw [kd] at z
    rw [if_pos z] at hE
    refine ⟨15, rf14_0 F, ok15 F, S_trapsW F hC.2.1 (fun _ => ⟨_, rfl, ?_⟩)⟩
    rw [hC.1.word hB z, ← trW_fd K]
    have r2 := hC.2.1.rd.1.2.1
    have fl := fun k => fd_some (c := tC b n i) (l := tlK K) (k := k)
    cases e : trW K (tC b n i) with
    | none =>
      rw [e] at hE
      refine ⟨fun y => absurd rfl y, fun _ => ⟨15, rf14_0 F, ok15 F, Z_fail hC (by decide) (fun M' X' _ => ⟨rfl, ?_⟩)⟩⟩
      exact EdP.er (v := 0) hE X' (by decide) t1 (Nat.le_refl _)
    | some q =>
      rw [e] at hE
      have ql : q.1 < 1000 := by
        have := (fl q.1 (by rw [← trW_fd K, e]; rfl)).1
        omega
      refine ⟨fun _ => ⟨15, rf14_0 F, ok15 F, Z_adv hS hC (by rw [z]; decide) ?_⟩, fun y => absurd y (oi_ne ql)⟩
      have hE : EdP b n s n0 τ M0 K.length ps (tlK K) (trS σ).1 (fun v M' => Q (some (.int v)) M') ((adv' b n i).bind fun i2 => .ok (i2, trP1 (raP σ (up2 σ.1.2.1 60 (40 * m + j) (Int32.ofNat q.2))) (exT (trS σ) q.1).1, (exT (trS σ) q.1).2)) := hE
      cases ea : adv' b n i with
      | error y =>
        rw [ea] at hE
        intro M8 X8 _
        have F8 := X8.1.1
        exact ⟨rfl, 4, rf14_1 F8, ok4 F8, V_op X8 (fun Θ hT _ h1 => ⟨exT Θ q.1, ts_ex h1, fun Q' H' => S_ex F8 hT H'⟩) (fun M' v t' X' ht hv _ => ⟨_, rfl, EdP.er hE X' (by decide) hv ht⟩)⟩
      | ok i2 =>
        rw [ea] at hE
        intro M8 C8 _
        have F8 := C8.1.1
        refine ⟨rfl, 4, rf14_1 F8, ok4 F8, S_ex F8 C8.2.1.trp (fun M9 T9 k9 _ => ⟨_, rfl, ?_⟩)⟩
        exact hE.ok' (C8.tree k9 T9)
  · rw [kd] at z
    rw [if_neg z] at hE
    refine ⟨15, rf14_0 F, ok15 F, Z_fail hC (by decide) (fun M' X' _ => ⟨rfl, ?_⟩)⟩
    exact EdP.er (v := 0) hE X' (by decide) t1 (Nat.le_refl _)
end
end
section
/-! the class reads parts: assign, the comparison of an if -/
def EdU (b : Nat → Int32) (n s n0 : Nat) (τ : Td) (M0 : Mem) (o : Nat) (cn : Nat → Nat) (ps : List Nat) (tl : List Int64) (t : Nat) (P : Mem → Prop) (R : Except (Int32 × Nat) (Nat × PS)) : Prop := match R with
  | .ok r => ∀ M', CS b n s n0 τ M0 M' r.1 o r.2.2.1 cn ps tl → P M'
  | .error e => ∀ M', CX n0 τ M0 (s + 70) 1 M' e.1 e.2 ps tl t → P M'
section
variable {b : Nat → Int32} {n s n0 m : Nat} {τ : Td} {M0 M M1 M' : Mem} {i o i' o' j : Nat} {γ : ClT} {σ : PS} {K : List KE} {cn cn' : Nat → Nat} {ps : List Nat} {tl : List Int64} {f c : Int32} {p t t' h B t0 : Nat} {Q : Option Value → Mem → Prop} {Q1 : Int32 → Mem → Prop} {P : Mem → Prop} {W : Nat}
theorem w14 {q : Nat} {v : Int32} : mI (wI M 14 q v) 15 = mI M 15 := up2_row (f := mI M) (a := 14) (b := 15) (k := q) (v := v) (by decide)
theorem CQ.ln (hC : CQ n0 τ M0 M γ cn ps tl) : mI M (n0 + 22) 1 = Int32.ofNat γ.2.2.2.2.2.1.length := by
  obtain ⟨lc, rc, cc, pb, ib, hq⟩ := hC
  exact hq.2.1.1.2.2.2.1
/-- behind a fault: a sum and its stop -/
theorem V_suM (X : CX n0 τ M0 W B M f p ps tl t) (hB : B ≤ 100) (H : ∀ M', CX n0 τ M0 W (B + 1) M' f p ps tl t → P M') : E (h + 4) mdX4_readSum [.ref 14] M (fun r M15 => mE M M15 → r = none ∧ ∃ b16 : Nat, mR M15 14 7 = some b16 ∧ ok M15 b16 3 ∧ ∃ b18 : Nat, mR M15 b16 8 = some b18 ∧ ok M15 b18 8 ∧ E (h + 4) mdX6_add [.ref b18, .int 0] M15 (fun r M20 => mE M15 M20 → r = none ∧ P M20)) := by
  have N := X.nz
  exact V_sum X (by omega) (fun _ => ⟨rfl, n0, N.2.2.2.2.2.1, N.2.2.1, n0 + 22, N.2.2.2.2.2.2.2.2.1, N.2.2.2.2.1, V_stop X (by omega) (fun M' X' _ => ⟨rfl, H M' X'⟩)⟩)
theorem Z_suM {f1 f2 fo : Nat} (hB : By b) (hS : Sto b n s) (hC : CS b n s n0 τ M0 M i o σ.2.1 cn ps tl) (hj : j < ps.length) (ho : o ≤ 15) (e : M1 = wI M (ps.getD j 0) fo (Int32.ofNat σ.2.1.2.2.2.2.2.1.length)) (hE : EdU b n s n0 τ M0 o cn ps tl (trS σ).1 P (suM b n m τ j f1 f2 fo i o σ)) : E (h + 72) mdX4_readSum [.ref 14] M1 (fun r M15 => mE M1 M15 → r = none ∧ ∃ b16 : Nat, mR M15 14 7 = some b16 ∧ ok M15 b16 3 ∧ ∃ b18 : Nat, mR M15 b16 8 = some b18 ∧ ok M15 b18 8 ∧ E (h + 72) mdX6_add [.ref b18, .int 0] M15 (fun r M20 => mE M15 M20 → r = none ∧ P M20)) := by
  have C1 := hC.pt hj e
  unfold suM at hE
  refine Z_sum (X := σ.2.2.1) hB hS C1 ho (by omega) ?_
  show EdS b n s n0 τ M0 o σ.2.2.1 _ cn ps tl _ (rd b n τ.1 τ.2.2.1 τ.2.2.2.1 6000 3 i o σ.2.2.1 (usS σ))
  cases er : rd b n τ.1 τ.2.2.1 τ.2.2.2.1 6000 3 i o σ.2.2.1 (usS σ) with
  | error y =>
    rw [er] at hE
    intro M2 X2 _
    have N := X2.nz
    exact ⟨rfl, n0, N.2.2.2.2.2.1, N.2.2.1, n0 + 22, N.2.2.2.2.2.2.2.2.1, N.2.2.2.2.1, V_stop X2 (by decide) (fun M' X' _ => ⟨rfl, hE M' X'⟩)⟩
  | ok r =>
    rw [er] at hE
    intro M2 C2 l2 _
    have N := C2.2.1.nz
    exact ⟨rfl, n0, N.2.2.2.2.2.1, N.2.2.1, n0 + 22, N.2.2.2.2.2.2.2.2.1, N.2.2.2.2.1, Z_stop C2 l2 (fun M' C' _ => ⟨rfl, hE M' C'⟩)⟩
theorem Z_asg {w : Int64} {H : Nat} (hB : By b) (hS : Sto b n s) (hC : CS b n s n0 τ M0 M i K.length σ.2.1 σ.1.1 ps tl) (hj : j < ps.length) (ho : K.length ≤ 15) (hH : 80 ≤ H) (hE : EdP b n s n0 τ M0 K.length ps tl (trS σ).1 (fun v M' => Q (some (.int v)) M') (lfM b n m τ 2 w j i K σ)) : E H mdX4_readAssign [.ref 14, .ref (ps.getD j 0), .long w] M Q := by
  obtain ⟨H, rfl⟩ : ∃ H', H = H' + 80 := ⟨H - 80, by omega⟩
  have F := hC.1.1
  have N := hC.2.1.nz
  have hE : EdP b n s n0 τ M0 K.length ps tl (trS σ).1 (fun v M' => Q (some (.int v)) M') ((ex b n i 5).bind fun i2 => (suM b n m τ j 64 65 5 i2 K.length (guP (paP (paP σ j 3 2) j 4 (oi (fd τ.2.2.2.1 w))) (giS σ ||| ((1 : Int32) <<< (oi (fd τ.2.2.2.1 w) &&& 31))) (usS σ))).bind fun r => .ok (r.1, trP1 r.2 (mkT (trS r.2) 0).1, (mkT (trS r.2) 0).2)) := hE
  have vx : ∀ (M2 : Mem) (f : Int32) (p B : Nat), B ≤ 10 → CX n0 τ M0 (s + 70) B M2 f p ps tl (trS σ).1 → EdP b n s n0 τ M0 K.length ps tl (trS σ).1 (fun v M' => Q (some (.int v)) M') (.error (f, p)) → ∃ b24 : Nat, mR M2 14 1 = some b24 ∧ ok M2 b24 10 ∧ E (H + 79) mdX8_make [.ref b24, .int 0] M2 (fun r M26 => mE M2 M26 → ∃ r27 : Int32, r = some (.int r27) ∧ Q (some (.int r27)) M26) := by
    intro M2 f p B hB10 X2 hq
    have F2 := X2.1.1
    exact ⟨4, rf14_1 F2, ok4 F2, V_op X2 (fun Θ hT _ h1 => ⟨mkT Θ 0, ts_mk h1, fun Q' H' => S_mk F2 hT H'⟩) (fun M' v t' X' ht hv _ => ⟨_, rfl, hq.er X' hB10 hv ht⟩)⟩
  refine KX4_readAssign ?_
  unfold DX4_readAssign_0
  refine ⟨ok14 F, n0, N.2.2.2.2.2.1, N.2.2.1, S_varNamed hC.2.1.env (fun _ => ⟨_, rfl, (hC.2.1.part hj).1, fun M7 e7 M8 e8 M9 e9 => ?_⟩)⟩
  have C7 := hC.pt hj e7
  have C8 := C7.pt hj e8
  have g8 : mI M8 14 5 = giS σ := C8.2.1.rd.2.2.1
  rw [g8] at e9
  have C9 : CS b n s n0 τ M0 M9 i K.length (guP (paP (paP σ j 3 2) j 4 (oi (fd τ.2.2.2.1 w))) (giS σ ||| ((1 : Int32) <<< (oi (fd τ.2.2.2.1 w) &&& 31))) (usS σ)).2.1 σ.1.1 ps tl := ⟨by rw [e9]; exact C8.1.fr C8.1.1.i w14 rfl rfl rfl rfl, C8.2.1.gv C8.1.1 e9, C8.2.2⟩
  have F9 := C9.1.1
  refine ⟨15, rf14_0 F9, ok15 F9, Z_expect hS C9 (by decide) ?_⟩
  cases e5 : ex b n i 5 with
  | error y =>
    rw [e5] at hE
    intro M12 X12 _
    have F12 := X12.1.1
    have N12 := X12.nz
    refine ⟨rfl, n0, N12.2.2.2.2.2.1, N12.2.2.1, n0 + 22, N12.2.2.2.2.2.2.2.2.1, N12.2.2.2.2.1, fun M17 e17 => ?_⟩
    have X17 := X12.pt hj e17
    exact V_suM (h := H + 75) X17 (by decide) (fun M' X' => vx M' _ _ 1 (by decide) X' hE)
  | ok i2 =>
    rw [e5] at hE
    intro M12 C12 _
    have F12 := C12.1.1
    have N12 := C12.2.1.nz
    refine ⟨rfl, n0, N12.2.2.2.2.2.1, N12.2.2.1, n0 + 22, N12.2.2.2.2.2.2.2.2.1, N12.2.2.2.2.1, fun M17 e17 => ?_⟩
    rw [C12.2.1.ln] at e17
    refine Z_suM (h := H + 7) (f1 := 64) (f2 := 65) (m := m) hB hS C12 hj ho e17 ?_
    have hE : EdP b n s n0 τ M0 K.length ps tl (trS σ).1 (fun v M' => Q (some (.int v)) M') ((suM b n m τ j 64 65 5 i2 K.length (guP (paP (paP σ j 3 2) j 4 (oi (fd τ.2.2.2.1 w))) (giS σ ||| ((1 : Int32) <<< (oi (fd τ.2.2.2.1 w) &&& 31))) (usS σ))).bind fun r => .ok (r.1, trP1 r.2 (mkT (trS r.2) 0).1, (mkT (trS r.2) 0).2)) := hE
    have hc : ∀ r, suM b n m τ j 64 65 5 i2 K.length (guP (paP (paP σ j 3 2) j 4 (oi (fd τ.2.2.2.1 w))) (giS σ ||| ((1 : Int32) <<< (oi (fd τ.2.2.2.1 w) &&& 31))) (usS σ)) = .ok r → r.2.1.1 = σ.1.1 := by
      intro r hr
      unfold suM at hr
      obtain ⟨x, -, hr⟩ := bind_ok hr
      cases hr
      rfl
    cases es : suM b n m τ j 64 65 5 i2 K.length (guP (paP (paP σ j 3 2) j 4 (oi (fd τ.2.2.2.1 w))) (giS σ ||| ((1 : Int32) <<< (oi (fd τ.2.2.2.1 w) &&& 31))) (usS σ)) with
    | error y => rw [es] at hE; exact fun M' X' => vx M' _ _ 1 (by decide) X' hE
    | ok r =>
      rw [es] at hE
      have hc := hc r es
      intro M' C'
      have F' := C'.1.1
      refine ⟨4, rf14_1 F', ok4 F', S_mk F' C'.2.1.trp (fun M2 T2 k2 _ => ⟨_, rfl, ?_⟩)⟩
      refine hE.ok' ?_
      have q := C'.tree k2 T2
      rw [← hc] at q
      exact q
end
end
section
/-! the class reads parts: the comparison of an if -/
def cmM (b : Nat → Int32) (n m : Nat) (τ : Td) (j i o : Nat) (σ : PS) : Except (Int32 × Nat) (Nat × PS × Nat) := (suM b n m τ j 64 65 5 i o (paP (paP σ j 3 3) j 4 (Int32.ofNat (σ.1.1 2 - 1)))).bind fun r => if 7 ≤ tK b n r.1 ∧ tK b n r.1 ≤ 12 then (adv' b n r.1).bind fun i2 => (suM b n m τ j 66 67 6 i2 o (paP (raP r.2 (up2 r.2.1.2.1 68 (40 * m + j) (tK b n r.1 - 7))) j 7 (tK b n r.1))).bind fun q => .ok (q.1, (q.2.1, (q.2.2.1.1, q.2.2.1.2.1, (frL q.2.2.1.2.2.1).1, q.2.2.1.2.2.2.1, q.2.2.1.2.2.2.2.1 ++ [Int32.ofNat (2 * q.2.2.1.2.2.1.length)], q.2.2.1.2.2.2.2.2), q.2.2.2), 2 * q.2.2.1.2.2.1.length) else .error (2, tP b n r.1)
section
variable {b : Nat → Int32} {n s n0 m : Nat} {τ : Td} {M0 M M1 M' : Mem} {i o i' o' j : Nat} {γ : ClT} {σ : PS} {K : List KE} {cn cn' : Nat → Nat} {ps : List Nat} {tl : List Int64} {f c : Int32} {p t t' h B t0 : Nat} {Q : Option Value → Mem → Prop} {Q1 : Int32 → Mem → Prop} {P : Mem → Prop} {W : Nat}
theorem hdM_58 : hdM b n m τ 58 j i K σ = (cmM b n m τ j i (K.length + 1) σ).bind fun q => (ex b n q.1 45).bind fun i3 => .ok (i3, q.2.1, q.2.2, false, 0, none) := by
  show (suM b n m τ j 64 65 5 i (K.length + 1) (paP (paP σ j 3 3) j 4 (Int32.ofNat (σ.1.1 2 - 1)))).bind _ = _
  unfold cmM
  rw [ebA]
  congr 1
  funext r
  by_cases q : 7 ≤ tK b n r.1 ∧ tK b n r.1 ≤ 12
  · rw [if_pos q, if_pos q, ebA]
    congr 1
    funext i2
    rw [ebA]
    rfl
  · rw [if_neg q, if_neg q]
    rfl
theorem suM_cl {f1 f2 fo : Nat} {r : Nat × PS} (h : suM b n m τ j f1 f2 fo i o σ = .ok r) : r.2.2.1.2.2.1 = σ.2.1.2.2.1 ∧ r.2.2.1.2.2.2.2.1 = σ.2.1.2.2.2.2.1 ∧ r.2.1.1 = σ.1.1 ∧ trS r.2 = trS σ := by
  unfold suM at h
  obtain ⟨x, -, h⟩ := bind_ok h
  cases h
  exact ⟨rfl, rfl, rfl, rfl⟩
def EdM (b : Nat → Int32) (n s n0 : Nat) (τ : Td) (M0 : Mem) (o : Nat) (ps : List Nat) (tl : List Int64) (t : Nat) (Q : Int32 → Mem → Prop) (R : Except (Int32 × Nat) (Nat × PS × Nat)) : Prop := match R with
  | .ok q => ∀ M', CS b n s n0 τ M0 M' q.1 o q.2.1.2.1 q.2.1.1.1 ps tl → Q (Int32.ofNat q.2.2) M'
  | .error e => ∀ M' v, CX n0 τ M0 (s + 70) 4 M' e.1 e.2 ps tl t → Q v M'
theorem Z_cmp {H : Nat} (hB : By b) (hS : Sto b n s) (hC : CS b n s n0 τ M0 M i o σ.2.1 cn ps tl) (hcn : cn 0 = σ.1.1 0 ∧ cn 1 = σ.1.1 1 ∧ cn 2 + 1 = σ.1.1 2 ∧ cn 3 = σ.1.1 3) (h40 : σ.1.1 2 ≤ 40) (hj : j < ps.length) (ho : o ≤ 15) (hH : 80 ≤ H) (hE : EdM b n s n0 τ M0 o ps tl (trS σ).1 (fun v M' => Q (some (.int v)) M') (cmM b n m τ j i o σ)) : E H mdX4_readComparison [.ref 14, .ref (ps.getD j 0)] M Q := by
  obtain ⟨H, rfl⟩ : ∃ H', H = H' + 80 := ⟨H - 80, by omega⟩
  have F := hC.1.1
  have vx : ∀ (M2 : Mem) (f : Int32) (p B : Nat), B ≤ 2 → CX n0 τ M0 (s + 70) B M2 f p ps tl (trS σ).1 → EdM b n s n0 τ M0 o ps tl (trS σ).1 (fun v M' => Q (some (.int v)) M') (.error (f, p)) → DX4_readComparison_101 (H + 79) 14 (ps.getD j 0) M2 Q := by
    intro M2 f p B hB2 X2 hq
    have F2 := X2.1.1
    have N := X2.nz
    unfold DX4_readComparison_101
    refine ⟨ok14 F2, 15, rf14_0 F2, ok15 F2, V_adv X2 (fun _ => ⟨rfl, n0, N.2.2.2.2.2.1, N.2.2.1, n0 + 22, N.2.2.2.2.2.2.2.2.1, N.2.2.2.2.1, X2.part hj, fun M3 e3 => ?_⟩)⟩
    have X3 := X2.pt hj e3
    refine V_suM (h := H + 75) X3 (by omega) (fun M4 X4 => ?_)
    have N4 := X4.nz
    exact ⟨n0, N4.2.2.2.2.2.1, N4.2.2.1, n0 + 8, N4.2.2.2.2.2.2.1, N4.2.2.2.1, V_if X4 (by omega) (fun M5 v X5 _ => ⟨_, rfl, hq M5 v (X5.mono (Nat.le_refl _) (by omega))⟩)⟩
  have vx2 : ∀ (M2 : Mem) (f : Int32) (p B : Nat), B ≤ 2 → CX n0 τ M0 (s + 70) B M2 f p ps tl (trS σ).1 → EdM b n s n0 τ M0 o ps tl (trS σ).1 (fun v M' => Q (some (.int v)) M') (.error (f, p)) → DX4_readComparison_93 (H + 79) 14 (ps.getD j 0) M2 Q := by
    intro M2 f p B hB2 X2 hq
    have F2 := X2.1.1
    unfold DX4_readComparison_93
    exact ⟨ok14 F2, 15, rf14_0 F2, ok15 F2, V_fail X2 (fun _ => ⟨rfl, vx M2 f p B hB2 X2 hq⟩)⟩
  unfold cmM at hE
  refine KX4_readComparison ?_
  unfold DX4_readComparison_0
  refine ⟨(hC.2.1.part hj).1, fun M2 e2 => ?_⟩
  have C2 := hC.pt hj e2
  have F2 := C2.1.1
  have N2 := C2.2.1.nz
  refine ⟨ok14 F2, n0, N2.2.2.2.2.2.1, N2.2.2.1, fun M6 e6 => ?_⟩
  have i2 : mI M2 n0 14 = Int32.ofNat (σ.1.1 2 - 1) := by rw [C2.2.1.rd.2.2.2.2.1, show cn 2 = σ.1.1 2 - 1 by omega]
  rw [i2] at e6
  have C6 := C2.pt hj e6
  have N6 := C6.2.1.nz
  refine ⟨n0, N6.2.2.2.2.2.1, N6.2.2.1, fun M9 e9 => ?_⟩
  have i6 : mI M6 n0 14 + 1 = Int32.ofNat (σ.1.1 2) := by rw [C6.2.1.rd.2.2.2.2.1, succ32, hcn.2.2.1]
  rw [i6] at e9
  have C9 : CS b n s n0 τ M0 M9 i o (paP (paP σ j 3 3) j 4 (Int32.ofNat (σ.1.1 2 - 1))).2.1 σ.1.1 ps tl := ⟨TI_hi C6.1 (by rw [e9]; exact fr_wI (S := fun c => 132 ≤ c) N6.1), C6.2.1.w0 (Or.inl rfl) e9 hcn.2.1.symm hcn.1.symm (by rw [if_pos rfl]) (by rw [if_pos rfl]; exact hcn.2.2.2.symm), C6.2.2.1, C6.2.2.2.1, by have := hC.2.2.2.2.1; show σ.2.1.2.2.2.2.1.length ≤ _; omega, h40⟩
  have N9 := C9.2.1.nz
  refine ⟨n0, N9.2.2.2.2.2.1, N9.2.2.1, n0 + 22, N9.2.2.2.2.2.2.2.2.1, N9.2.2.2.2.1, fun M14 e14 => ?_⟩
  rw [C9.2.1.ln] at e14
  refine Z_suM (h := H + 7) (f1 := 64) (f2 := 65) (m := m) hB hS C9 hj ho e14 ?_
  have sok := suM_ok (F := True) (b := b) (n := n) (s := s) (i := i) (m := m) (τ := τ) (j := j) (f1 := 64) (f2 := 65) (fo := 5) (o := o) (σ := paP (paP σ j 3 3) j 4 (Int32.ofNat (σ.1.1 2 - 1))) hS hC.1.2.1.2.2 hC.1.2.2.2.2.2.2.2.2.2 (by decide) (by decide)
  cases es : suM b n m τ j 64 65 5 i o (paP (paP σ j 3 3) j 4 (Int32.ofNat (σ.1.1 2 - 1))) with
  | error y =>
    rw [es] at hE
    intro M20 X20
    have F20 := X20.1.1
    refine ⟨15, rf14_0 F20, ok15 F20, fun M23 e23 => ?_⟩
    have X23 := X20.pt hj e23
    have F23 := X23.1.1
    refine ⟨15, rf14_0 F23, ok15 F23, fun _ => vx2 M23 _ _ 1 (by decide) X23 hE, fun z => absurd (by rw [X23.1.2.2.2.2.2]; decide) z⟩
  | ok r =>
    rw [es] at hE sok
    obtain ⟨s1, s2, s3, -, s5⟩ := sok
    obtain ⟨g1, g2, g3, g4⟩ := suM_cl es
    have hE : EdM b n s n0 τ M0 o ps tl (trS σ).1 (fun v M' => Q (some (.int v)) M') (if 7 ≤ tK b n r.1 ∧ tK b n r.1 ≤ 12 then _ else _) := hE
    intro M20 C20
    have F20 := C20.1.1
    refine ⟨15, rf14_0 F20, ok15 F20, fun M23 e23 => ?_⟩
    rw [C20.1.kind] at e23
    have C23 := C20.pt hj e23
    have F23 := C23.1.1
    have kd := C23.1.kind
    have g4 : trS r.2 = trS σ := g4
    have bad : ¬ (7 ≤ tK b n r.1 ∧ tK b n r.1 ≤ 12) → DX4_readComparison_93 (H + 79) 14 (ps.getD j 0) M23 Q := by
      intro z
      rw [if_neg z] at hE
      unfold DX4_readComparison_93
      refine ⟨ok14 F23, 15, rf14_0 F23, ok15 F23, Z_fail C23 (by decide) (fun M24 X24 _ => ⟨rfl, vx M24 _ _ 0 (by decide) ?_ hE⟩)⟩
      have X24 : CX n0 τ M0 (s + 70) 0 M24 2 (tP b n r.1) ps tl (trS r.2).1 := X24
      rw [g4] at X24
      exact X24
    refine ⟨15, rf14_0 F23, ok15 F23, fun z => bad (fun y => ?_), fun z => ⟨15, rf14_0 F23, ok15 F23, fun z2 => ?_, fun z2 => bad (fun y => ?_)⟩⟩
    · rw [kd] at z; exact absurd y.1 (Int32.not_le.mpr z)
    · rw [kd] at z z2
      have z : 7 ≤ tK b n r.1 := Int32.not_lt.mp z
      rw [if_pos ⟨z, z2⟩] at hE
      unfold DX4_readComparison_101
      refine ⟨ok14 F23, 15, rf14_0 F23, ok15 F23, Z_adv hS C23 (fun y => by rw [y] at z; exact absurd z (by decide)) ?_⟩
      cases ea : adv' b n r.1 with
      | error y =>
        rw [ea] at hE
        intro M24 X24 _
        have X24 : CX n0 τ M0 (s + 70) 0 M24 y.1 y.2 ps tl (trS r.2).1 := X24
        rw [g4] at X24
        have N := X24.nz
        refine ⟨rfl, n0, N.2.2.2.2.2.1, N.2.2.1, n0 + 22, N.2.2.2.2.2.2.2.2.1, N.2.2.2.2.1, X24.part hj, fun M3 e3 => ?_⟩
        have X3 := X24.pt hj e3
        refine V_suM (h := H + 75) X3 (by omega) (fun M4 X4 => ?_)
        have N4 := X4.nz
        exact ⟨n0, N4.2.2.2.2.2.1, N4.2.2.1, n0 + 8, N4.2.2.2.2.2.2.1, N4.2.2.2.1, V_if X4 (by omega) (fun M5 v X5 _ => ⟨_, rfl, hE M5 v (X5.mono (Nat.le_refl _) (by omega))⟩)⟩
      | ok i2 =>
        rw [ea] at hE
        have hE : EdM b n s n0 τ M0 o ps tl (trS σ).1 (fun v M' => Q (some (.int v)) M') ((suM b n m τ j 66 67 6 i2 o (paP (raP r.2 (up2 r.2.1.2.1 68 (40 * m + j) (tK b n r.1 - 7))) j 7 (tK b n r.1))).bind _) := hE
        intro M24 C24 _
        have N := C24.2.1.nz
        refine ⟨rfl, n0, N.2.2.2.2.2.1, N.2.2.1, n0 + 22, N.2.2.2.2.2.2.2.2.1, N.2.2.2.2.1, (C24.2.1.part hj).1, fun M3 e3 => ?_⟩
        rw [C24.2.1.ln] at e3
        refine Z_suM (h := H + 7) (f1 := 66) (f2 := 67) (fo := 6) (m := m) (σ := paP (raP r.2 (up2 r.2.1.2.1 68 (40 * m + j) (tK b n r.1 - 7))) j 7 (tK b n r.1)) hB hS C24 hj ho e3 ?_
        have i2l := C24.len.2.2.1
        have sok2 := suM_ok (F := True) (b := b) (n := n) (s := s) (i := i2) (m := m) (τ := τ) (j := j) (f1 := 66) (f2 := 67) (fo := 6) (o := o) (σ := paP (raP r.2 (up2 r.2.1.2.1 68 (40 * m + j) (tK b n r.1 - 7))) j 7 (tK b n r.1)) hS i2l C24.1.2.2.2.2.2.2.2.2.2 (by decide) (by decide)
        cases es2 : suM b n m τ j 66 67 6 i2 o (paP (raP r.2 (up2 r.2.1.2.1 68 (40 * m + j) (tK b n r.1 - 7))) j 7 (tK b n r.1)) with
        | error y =>
          rw [es2] at hE
          intro M4 X4
          have X4 : CX n0 τ M0 (s + 70) 1 M4 y.1 y.2 ps tl (trS r.2).1 := X4
          rw [g4] at X4
          have N4 := X4.nz
          exact ⟨n0, N4.2.2.2.2.2.1, N4.2.2.1, n0 + 8, N4.2.2.2.2.2.2.1, N4.2.2.2.1, V_if X4 (by omega) (fun M5 v X5 _ => ⟨_, rfl, hE M5 v (X5.mono (Nat.le_refl _) (by omega))⟩)⟩
        | ok q =>
          rw [es2] at hE sok2
          obtain ⟨v1, v2, v3, -, v5⟩ := sok2
          obtain ⟨w1, w2, w3, w4⟩ := suM_cl es2
          have w1 : q.2.2.1.2.2.1 = σ.2.1.2.2.1 := w1.trans g1
          have w2 : q.2.2.1.2.2.2.2.1 = σ.2.1.2.2.2.2.1 := w2.trans g2
          have w3 : q.2.1.1 = σ.1.1 := w3.trans g3
          intro M4 C4
          have N4 := C4.2.1.nz
          have i2r : r.1 ≤ i2 := by
            unfold adv' at ea
            split at ea
            · cases ea
            · cases ea; omega
          refine ⟨n0, N4.2.2.2.2.2.1, N4.2.2.1, n0 + 8, N4.2.2.2.2.2.2.1, N4.2.2.2.1, Z_if C4 (by have := hC.2.2.2.2.1; rw [w2]; omega) (by have := hC.2.2.1; rw [w1]; omega) (fun M5 C5 _ => ⟨_, rfl, ?_⟩)⟩
          refine hE M5 ?_
          show CS b n s n0 τ M0 M5 q.1 o _ q.2.1.1 ps tl
          rw [w3]
          exact C5
    · rw [kd] at z2; exact absurd y.2 z2
end
end
section
/-! the class reads parts: behind a fault -/
theorem bE {x y : Int32} : (x == y) = decide (x = y) := rfl
section
variable {n0 : Nat} {τ : Td} {M0 M M' : Mem} {ps : List Nat} {tl : List Int64} {f c : Int32} {p t t' h B a x j : Nat} {Q : Option Value → Mem → Prop} {k : Int32} {W : Nat}
theorem S_stays (H : Q (some (.int (if opnK k = true then 1 else 0))) M) : E (h + 1) mdX4_staysOpen [.int k] M Q := by
  refine KX4_staysOpen ?_
  unfold DX4_staysOpen_0
  refine ⟨fun z => ⟨Or.inr rfl, ?_⟩, fun z => ⟨Or.inr rfl, ?_⟩, fun z => ⟨Or.inr rfl, ?_⟩, fun z => ⟨Or.inr rfl, ?_⟩, fun z => ⟨Or.inr rfl, ?_⟩, fun z => ⟨Or.inr rfl, ?_⟩, fun z => ⟨Or.inr rfl, ?_⟩, fun z => ⟨Or.inr rfl, ?_⟩, fun z => ⟨Or.inr rfl, ?_⟩, fun z => ⟨Or.inl rfl, ?_⟩⟩
  all_goals first
    | (rw [if_pos (by rw [z]; decide)] at H; exact H)
    | (rw [if_neg (by unfold opnK; simp only [bE, z, decide_false, Bool.or_self]; decide)] at H; exact H)
def sal (k : Int32) : Prop := (¬ k < 37 ∧ k ≤ 41) ∨ k = 47 ∨ k = 57
theorem S_alone (H1 : sal k → Q (some (.int 1)) M) (H0 : ¬ sal k → Q (some (.int 0)) M) : E (h + 1) mdX4_standsAlone [.int k] M Q := by
  refine KX4_standsAlone ?_
  unfold DX4_standsAlone_0 DX4_standsAlone_12 DX4_standsAlone_24 DX4_standsAlone_29
  have w : (¬ ((¬ k < 37) ∧ k ≤ 41)) → ((k = 47 → ((1 : Int32) = 0 ∨ (1 : Int32) = 1) ∧ Q (some (.int 1)) M) ∧ (¬ k = 47 → (¬ k = 57 → ((0 : Int32) = 0 ∨ (0 : Int32) = 1) ∧ Q (some (.int 0)) M) ∧ (k = 57 → ((1 : Int32) = 0 ∨ (1 : Int32) = 1) ∧ Q (some (.int 1)) M))) := fun y => ⟨fun z => ⟨Or.inr rfl, H1 (Or.inr (Or.inl z))⟩, fun z => ⟨fun z2 => ⟨Or.inl rfl, H0 (by rintro (q | q | q) <;> first | exact y q | exact z q | exact z2 q)⟩, fun z2 => ⟨Or.inr rfl, H1 (Or.inr (Or.inr z2))⟩⟩⟩
  exact ⟨fun z => w (fun y => y.1 z), fun z => ⟨fun z2 => ⟨Or.inr rfl, H1 (Or.inl ⟨z, z2⟩)⟩, fun z2 => w (fun y => z2 y.2)⟩⟩
theorem S_pauses (H : Q (some (.int (Int32.ofNat (paK k)))) M) : E (h + 1) mdX4_pausesOf [.int k] M Q := by
  refine KX4_pausesOf ?_
  unfold DX4_pausesOf_0
  refine ⟨fun z => ?_, fun z => ?_, fun z => ?_, fun z => ?_, fun z => ?_, fun z => ?_, fun z => ?_, fun z => ?_, fun z => ?_, fun z => ?_, fun z => ?_, fun z => ?_, fun z => ?_, fun z => ?_, fun z => ?_, fun z => ?_, fun z => ?_⟩
  all_goals first
    | (rw [show paK k = 0 by rw [z]; decide] at H; exact H)
    | (rw [show paK k = 1 by rw [z]; decide] at H; exact H)
    | (rw [show paK k = 3 by rw [z]; decide] at H; exact H)
    | skip
  have hn : ∀ y : Int32, 38 ≤ y.toInt → y.toInt ≤ 53 → k ≠ y := fun y q1 q2 q => by rw [q] at z; omega
  have e : paK k = 0 := by
    unfold paK
    rw [if_neg (hn 53 (by decide) (by decide)), if_neg]
    rintro (q | q | q | q | q | q)
    · exact hn 38 (by decide) (by decide) q
    · exact hn 39 (by decide) (by decide) q
    · exact hn 41 (by decide) (by decide) q
    · exact hn 47 (by decide) (by decide) q
    · exact hn 49 (by decide) (by decide) q
    · exact hn 50 (by decide) (by decide) q
  rw [e] at H
  exact H
theorem CX.one (X : CX n0 τ M0 W B M f p ps tl t) : CX n0 τ M0 W B M f p ps tl (t + 1 - 1) ∧ CX n0 τ M0 W B M f p ps tl (Nat.max t 1) := by
  refine ⟨X, ?_⟩
  obtain ⟨h1, γ, cn, h2, h3, h4, h5, h6⟩ := X
  have := h2.trp.2.2.1.1
  exact ⟨h1, γ, cn, h2, h3, h4, Nat.max_le.mpr ⟨h5, this⟩, h6⟩
theorem V_size (X : CX n0 τ M0 W B M f p ps tl t) (H : Q (some (.int (Int32.ofNat ps.length))) M) : E (h + 1) mdJx4a65c_size_8abf5 [.ref (n0 + 7)] M Q := by
  obtain ⟨h1, γ, cn, ⟨lc, rc, cc, pb, ib, h2⟩, -⟩ := X
  exact S_alSize h2.2.2.2.1.1 H
theorem CX.al (X : CX n0 τ M0 W B M f p ps tl t) : ok M (n0 + 7) 1 := by
  obtain ⟨h1, γ, cn, ⟨lc, rc, cc, pb, ib, h2⟩, -⟩ := X
  exact h2.2.2.2.1.1.1
/-- behind a fault a part is not begun -/
theorem V_check56 (X : CX n0 τ M0 W B M f p ps tl t) (H : Q none M) : DX4_checkBegin_56 (h + 2) 14 0 M Q := by
  have F := X.1.1
  have N := X.nz
  have v85 : DX4_checkBegin_85 (h + 2) 14 M Q := by
    unfold DX4_checkBegin_85 DX4_checkBegin_94
    exact ⟨ok14 F, 15, rf14_0 F, ok15 F, V_fail X (fun _ => ⟨rfl, H⟩)⟩
  unfold DX4_checkBegin_56 DX4_checkBegin_94
  exact ⟨ok14 F, n0, N.2.2.2.2.2.1, N.2.2.1, n0 + 7, N.2.2.2.2.2.2.2.1, X.al, V_size X (fun _ => ⟨_, rfl, fun _ => v85, fun _ => S_pauses (fun _ => ⟨_, rfl, fun _ => H, fun _ => v85⟩)⟩)⟩
theorem V_check (X : CX n0 τ M0 W B M f p ps tl t) (H : Q none M) : E (h + 3) mdX4_checkBegin [.ref 14, .int 0] M Q := by
  have F := X.1.1
  refine KX4_checkBegin ?_
  unfold DX4_checkBegin_0
  refine ⟨fun _ => S_stays (fun _ => ⟨_, rfl, fun _ => V_check56 X H, fun _ => S_alone (fun _ _ => ⟨_, rfl, fun _ => V_check56 X H, fun z => absurd z (by decide)⟩) (fun _ _ => ⟨_, rfl, fun _ => V_check56 X H, fun _ => ⟨ok14 F, 15, rf14_0 F, ok15 F, V_fail X (fun _ => ⟨rfl, V_check56 X H⟩)⟩⟩)⟩), fun z => absurd z (by decide)⟩
theorem V_part {d : Int32} (X : CX n0 τ M0 W B M f p ps tl t) (H : Q (some (.int 0)) M) : E (h + 4) mdX4_readPart [.ref 14, .int d] M Q := by
  have F := X.1.1
  have e9 : mI M 15 9 = 0 := X.1.2.2.2.2.2
  refine KX4_readPart ?_
  unfold DX4_readPart_0
  refine ⟨ok14 F, 15, rf14_0 F, ok15 F, ?_⟩
  rw [e9]
  exact V_check X (fun _ => ⟨rfl, 15, rf14_0 F, ok15 F, fun z => absurd z (by rw [X.1.2.2.1]; exact X.1.2.2.2.1), fun _ => H⟩)
theorem V_hg {c : Nat} (X : CX n0 τ M0 W B M f p ps tl t) (ha : a < t) (hc : c < t) (H : ∀ M', CX n0 τ M0 W B M' f p ps tl t → Q none M') : E (h + 2) mdX8_hang [.ref 4, .int (Int32.ofNat a), .int (Int32.ofNat c)] M Q := by
  obtain ⟨Θ, hT, ht⟩ := X.trp
  exact S_hg X.1.1 hT (by omega) (by omega) (fun M' T' k => H M' (X.tree k T' (by rw [hgT_n.1]; exact ht)))
theorem V_loop26 {d q : Int32} (X : CX n0 τ M0 W B M f p ps tl t) (H : Q (some (.int q)) M) : T (h + 3) mdX4_readSeq 26 [(0, .ref 14), (1, .int d), (2, .int q), (3, .int k)] [] M Q := by
  have F := X.1.1
  refine VX4_readSeq_26 ?_
  unfold DX4_readSeq_26 DX4_readSeq_65
  exact ⟨fun _ => H, fun _ => ⟨ok14 F, 15, rf14_0 F, ok15 F, V_accept X (by decide) (fun _ => ⟨_, rfl, fun _ => H, fun z => absurd rfl z⟩)⟩⟩
theorem V_seq {d : Int32} (X : CX n0 τ M0 W B M f p ps tl t) (H : ∀ M' v t', CX n0 τ M0 W B M' f p ps tl t' → t ≤ t' → v < t' → Q (some (.int (Int32.ofNat v))) M') : E (h + 6) mdX4_readSeq [.ref 14, .int d] M Q := by
  have F := X.1.1
  refine KX4_readSeq ?_
  unfold DX4_readSeq_0
  refine ⟨ok14 F, 4, rf14_1 F, ok4 F, V_op X (fun Θ hT _ h1 => ⟨mkT Θ 5, ts_mk h1, fun Q' H' => S_mk F hT H'⟩) (fun M1 v t1 X1 ht hv _ => ⟨_, rfl, 4, rf14_1 X1.1.1, ?_⟩)⟩
  refine V_part X1 (fun _ => ⟨_, rfl, ok4 X1.1.1, V_hg (c := 0) X1 hv (by omega) (fun M2 X2 _ => ⟨rfl, V_loop26 X2 (H M2 v t1 X2 ht hv)⟩)⟩)
theorem CX.push {c : Int64} (X : CX n0 τ M0 W B M f p ps tl t) (hl : tl.length < 16) (e : M' = wI (wAJ M 20 tl.length c) 14 3 (Int32.ofNat (tl.length + 1))) : CX n0 τ M0 W B M' f p ps (c :: tl) t := by
  obtain ⟨h1, γ, cn, h2, h3⟩ := X
  exact ⟨by rw [e]; exact h1.fr ((h1.1.aj (by decide)).i) w14, γ, cn, h2.push h1.1 hl e, h3⟩
theorem CX.pop {c : Int64} (X : CX n0 τ M0 W B M f p ps (c :: tl) t) (e : M' = wI M 14 3 (mI M 14 3 - 1)) : CX n0 τ M0 W B M' f p ps tl t := by
  obtain ⟨h1, γ, cn, h2, h3⟩ := X
  exact ⟨by rw [e]; exact h1.fr h1.1.i w14, γ, cn, h2.pop h1.1 e, h3⟩
theorem CX.tls (X : CX n0 τ M0 W B M f p ps tl t) : mI M 14 3 = Int32.ofNat tl.length ∧ tl.length ≤ 16 := by
  obtain ⟨h1, γ, cn, h2, h3⟩ := X
  exact ⟨h2.rd.1.1, h2.rd.1.2.1⟩
theorem V_trapped {d : Int32} {c : Int64} (X : CX n0 τ M0 W B M f p ps tl t) (H : ∀ M' v t', CX n0 τ M0 W B M' f p ps tl t' → t ≤ t' → v < t' → Q (some (.int (Int32.ofNat v))) M') : E (h + 7) mdX4_readTrapped [.ref 14, .long c, .int d] M Q := by
  have F := X.1.1
  obtain ⟨e3, l3⟩ := X.tls
  refine KX4_readTrapped ?_
  unfold DX4_readTrapped_0
  refine ⟨ok14 F, fun z => ⟨20, rf14_2 F, ok20 F, ?_, ?_⟩, fun z => ⟨15, rf14_0 F, ok15 F, V_fail X (fun _ => ⟨rfl, H M 0 (Nat.max t 1) X.one.2 (Nat.le_max_left _ _) (Nat.lt_of_lt_of_le Nat.zero_lt_one (Nat.le_max_right _ _))⟩)⟩⟩
  · rw [e3] at z ⊢
    rw [ln20 F]
    exact vp_of ((ltn32 (b := 16) (by omega) (by decide)).mp z) (by decide)
  · rw [e3] at z
    have hl : tl.length < 16 := (ltn32 (b := 16) (by omega) (by decide)).mp z
    rw [e3, lt32 (by omega)]
    intro M4 e4 M5 e5
    have e34 : mI M4 14 3 = Int32.ofNat tl.length := by rw [e4]; exact e3
    rw [e34, succ32, e4] at e5
    have X5 := X.push hl e5
    refine V_seq X5 (fun M6 v t6 X6 ht hv _ => ⟨_, rfl, fun M8 e8 => ?_⟩)
    exact H M8 v t6 (X6.pop e8) ht hv
end
end
section
/-! the class reads parts: conditions as the middle has them; tails behind a fault -/
section
variable {b : Nat → Int32} {n s n0 m : Nat} {τ : Td} {M0 M M' : Mem} {i o j : Nat} {γ : ClT} {σ : PS} {cn : Nat → Nat} {ps : List Nat} {tl : List Int64} {f c : Int32} {p t t' h B t0 : Nat} {Q : Option Value → Mem → Prop} {W : Nat}
def EdK (b : Nat → Int32) (n s n0 : Nat) (τ : Td) (M0 : Mem) (o : Nat) (cn : Nat → Nat) (ps : List Nat) (tl : List Int64) (t : Nat) (P : Int32 → Mem → Prop) (R : Except (Int32 × Nat) (Nat × PS × Nat)) : Prop := match R with
  | .ok q => ∀ M', CS b n s n0 τ M0 M' q.1 o q.2.1.2.1 cn ps tl → P (Int32.ofNat q.2.2) M'
  | .error e => ∀ M' v, CX n0 τ M0 (s + 70) 0 M' e.1 e.2 ps tl t → P v M'
theorem Z_coM {H : Nat} (hB : By b) (hS : Sto b n s) (hC : CS b n s n0 τ M0 M i o σ.2.1 cn ps tl) (ho : o ≤ 15) (hH : 60 ≤ H) (hE : EdK b n s n0 τ M0 o cn ps tl (trS σ).1 (fun v M' => Q (some (.int v)) M') (coM b n m τ j i o σ)) : E H mdX4_readCondition [.ref 14] M Q := by
  unfold coM at hE
  refine Z_cond (Y := σ.2.2.2) hB hS hC ho hH ?_
  cases e : rc b n τ.1 6000 3 i o σ.2.2.2 with
  | error y => rw [e] at hE; exact fun M' v X' => hE M' v X'
  | ok r => rw [e] at hE; exact fun M' C' => hE M' C'
def EdA (b : Nat → Int32) (n s n0 : Nat) (τ : Td) (M0 : Mem) (o : Nat) (cn : Nat → Nat) (ps : List Nat) (tl : List Int64) (t : Nat) (P : Int32 → Int32 → Mem → Prop) (R : Except (Int32 × Nat) (Nat × PS × Nat × Bool)) : Prop := match R with
  | .ok q => ∀ M', CS b n s n0 τ M0 M' q.1 o q.2.1.2.1 cn ps tl → P (b32 q.2.2.2) (Int32.ofNat q.2.2.1) M'
  | .error e => ∀ M' im v, CX n0 τ M0 (s + 70) 0 M' e.1 e.2 ps tl t → P (b32 im) v M'
/-- 'immediate' or not, and a condition -/
theorem Z_atM {P : Int32 → Int32 → Mem → Prop} (hB : By b) (hS : Sto b n s) (hC : CS b n s n0 τ M0 M i o σ.2.1 cn ps tl) (ho : o ≤ 15) (hE : EdA b n s n0 τ M0 o cn ps tl (trS σ).1 P (atM b n m τ j i o σ)) : E (h + 60) mdX7_accept [.ref 15, .int 48] M (fun r M9 => mE M M9 → ∃ r10 : Int32, r = some (.int r10) ∧ E (h + 60) mdX4_readCondition [.ref 14] M9 (fun r M11 => mE M9 M11 → ∃ r12 : Int32, r = some (.int r12) ∧ P r10 r12 M11)) := by
  unfold atM imM at hE
  have go : ∀ (M1 : Mem) (i1 : Nat) (im : Bool), CS b n s n0 τ M0 M1 i1 o σ.2.1 cn ps tl → EdA b n s n0 τ M0 o cn ps tl (trS σ).1 P ((coM b n m τ j i1 o (if im = true then raP σ (up2 σ.1.2.1 61 (40 * m + j) 1) else σ)).bind fun q => .ok (q.1, q.2.1, q.2.2, im)) → E (h + 60) mdX4_readCondition [.ref 14] M1 (fun r M11 => mE M1 M11 → ∃ r12 : Int32, r = some (.int r12) ∧ P (b32 im) r12 M11) := by
    intro M1 i1 im C1 hq
    have e1 : (if im = true then raP σ (up2 σ.1.2.1 61 (40 * m + j) 1) else σ).2 = σ.2 := by cases im <;> rfl
    generalize (if im = true then raP σ (up2 σ.1.2.1 61 (40 * m + j) 1) else σ) = σ1 at hq e1
    have C1 : CS b n s n0 τ M0 M1 i1 o σ1.2.1 cn ps tl := by rw [e1]; exact C1
    refine Z_coM (j := j) (m := m) hB hS C1 ho (by omega) ?_
    have e2 : (trS σ1).1 = (trS σ).1 := by show σ1.2.1.2.1.1 = _; rw [e1]; rfl
    cases e : coM b n m τ j i1 o σ1 with
    | error y => rw [e] at hq; exact fun M' v X' _ => ⟨_, rfl, hq M' im v (by rw [← e2]; exact X')⟩
    | ok q => rw [e] at hq; exact fun M' C' _ => ⟨_, rfl, hq M' C'⟩
  refine Z_accept hS hC (by decide) (fun k => ?_) (fun k _ => ⟨_, rfl, ?_⟩)
  · rw [if_pos k] at hE
    cases ea : adv' b n i with
    | error y =>
      rw [ea] at hE
      exact fun M1 X1 _ => ⟨_, rfl, V_cond X1 (by omega) (fun _ => ⟨_, rfl, hE M1 true _ X1⟩)⟩
    | ok i1 =>
      rw [ea] at hE
      exact fun M1 C1 _ => ⟨_, rfl, go M1 i1 true C1 hE⟩
  · rw [if_neg k] at hE
    exact go M i false hC hE
end
/-- what is to be shown behind a fault: a node comes -/
def VEnd (n0 : Nat) (τ : Td) (M0 : Mem) (W B : Nat) (f : Int32) (p : Nat) (ps : List Nat) (tl : List Int64) (t : Nat) (Q : Option Value → Mem → Prop) : Prop := ∀ M' v t', CX n0 τ M0 W B M' f p ps tl t' → t ≤ t' → v < t' → Q (some (.int (Int32.ofNat v))) M'
section
variable {n0 : Nat} {τ : Td} {M0 M M' : Mem} {ps : List Nat} {tl : List Int64} {f c : Int32} {p t t' h B a x j v v1 v2 : Nat} {Q : Option Value → Mem → Prop} {k l r10 : Int32} {im : Bool} {W : Nat}
theorem VEnd.up (H : VEnd n0 τ M0 W B f p ps tl t Q) (k : t ≤ t') : VEnd n0 τ M0 W B f p ps tl t' Q := fun M' v t2 X h1 h2 => H M' v t2 X (Nat.le_trans k h1) h2
/-- choice -/
theorem V_c43 (X : CX n0 τ M0 W B M f p ps tl t) (h1 : v1 < t) (h2 : v2 < t) (H : VEnd n0 τ M0 W B f p ps tl t Q) : DX4_readChoice_43 (h + 3) 14 l (Int32.ofNat v1) (Int32.ofNat v2) M Q := by
  have F := X.1.1
  unfold DX4_readChoice_43
  exact ⟨ok14 F, 15, rf14_0 F, ok15 F, V_expect X (by decide) (fun _ => ⟨rfl, 4, rf14_1 F, ok4 F, V_op X (fun Θ hT ht h0 => ⟨chT Θ l v1 v2, ts_ch h0, fun Q' H' => S_ch F hT (by omega) (by omega) H'⟩) (fun M' v t' X' ht hv _ => ⟨_, rfl, H M' v t' X' ht hv⟩)⟩)⟩
theorem V_cmk (X : CX n0 τ M0 W B M f p ps tl t) (h1 : v1 < t) (H : VEnd n0 τ M0 W B f p ps tl t Q) : ∃ b11 : Nat, mR M 14 1 = some b11 ∧ ok M b11 10 ∧ E (h + 3) mdX8_make [.ref b11, .int 0] M (fun r M13 => mE M M13 → ∃ r14 : Int32, r = some (.int r14) ∧ DX4_readChoice_43 (h + 3) 14 l (Int32.ofNat v1) r14 M13 Q) := by
  have F := X.1.1
  exact ⟨4, rf14_1 F, ok4 F, V_op X (fun Θ hT _ h1 => ⟨mkT Θ 0, ts_mk h1, fun Q' H' => S_mk F hT H'⟩) (fun M1 v t1 X1 ht hv _ => ⟨_, rfl, V_c43 X1 (by omega) hv (H.up ht)⟩)⟩
theorem V_choice {d : Int32} (X : CX n0 τ M0 W B M f p ps tl t) (H : VEnd n0 τ M0 W B f p ps tl t Q) : E (h + 7) mdX4_readChoice [.ref 14, .int l, .int d] M Q := by
  have F := X.1.1
  refine KX4_readChoice ?_
  unfold DX4_readChoice_0
  refine ⟨ok14 F, 15, rf14_0 F, ok15 F, V_expect X (by decide) (fun _ => ⟨rfl, V_seq X (fun M1 v t1 X1 ht hv _ => ⟨_, rfl, 15, rf14_0 X1.1.1, ok15 X1.1.1, V_accept X1 (by decide) (fun _ => ⟨_, rfl, fun _ => V_cmk X1 hv (H.up ht), fun z => absurd rfl z⟩)⟩)⟩)⟩
/-- loop -/
theorem V_l23 (X : CX n0 τ M0 W B M f p ps tl t) (h1 : v < t) (H : VEnd n0 τ M0 W B f p ps tl t Q) : DX4_readLoop_23 (h + 3) 14 (Int32.ofNat v) M Q := by
  have F := X.1.1
  unfold DX4_readLoop_23
  exact ⟨ok14 F, 15, rf14_0 F, ok15 F, V_expect X (by decide) (fun _ => ⟨rfl, 4, rf14_1 F, ok4 F, V_op X (fun Θ hT ht h0 => ⟨wrT Θ 6 v, ts_wr h0, fun Q' H' => S_wr F hT (by omega) H'⟩) (fun M' v t' X' ht hv _ => ⟨_, rfl, H M' v t' X' ht hv⟩)⟩)⟩
def TLp (h x : Nat) (r3 : Int32) (Q : Option Value → Mem → Prop) (M2 : Mem) : Prop := ∃ b4 : Nat, mR M2 14 1 = some b4 ∧ ok M2 b4 10 ∧ E h mdX8_canEndAtOnce [.ref b4, .int r3] M2 (fun r M6 => mE M2 M6 → ∃ r7 : Int32, r = some (.int r7) ∧ (r7 = 0 → DX4_readLoop_23 h 14 r3 M6 Q) ∧ (¬ (r7 = 0) → ok M6 x 5 ∧ ∀ M9, M9 = wI M6 x 2 7 → DX4_readLoop_23 h 14 r3 M9 Q))
theorem V_lp (X : CX n0 τ M0 W B M f p ps tl t) (hj : j < ps.length) (h1 : v < t) (H : VEnd n0 τ M0 W B f p ps tl t Q) : TLp (h + 3) (ps.getD j 0) (Int32.ofNat v) Q M := by
  have F := X.1.1
  obtain ⟨Θ, hT, ht⟩ := X.trp
  exact ⟨4, rf14_1 F, ok4 F, S_ceo F hT (by omega) (fun _ => ⟨_, rfl, fun _ => V_l23 X h1 H, fun _ => ⟨X.part hj, fun M9 e9 => V_l23 (X.pt hj e9) h1 H⟩⟩)⟩
theorem V_loop {d : Int32} (X : CX n0 τ M0 W B M f p ps tl t) (hj : j < ps.length) (H : VEnd n0 τ M0 W B f p ps tl t Q) : E (h + 7) mdX4_readLoop [.ref 14, .ref (ps.getD j 0), .int d] M Q := by
  refine KX4_readLoop ?_
  unfold DX4_readLoop_0
  exact ⟨ok14 X.1.1, V_seq X (fun M1 v t1 X1 ht hv _ => ⟨_, rfl, V_lp (h := h + 3) X1 hj hv (H.up ht)⟩)⟩
/-- abort -/
def TAb2 (h : Nat) (r3 r12 r10 : Int32) (Q : Option Value → Mem → Prop) (M15 : Mem) : Prop := ∃ b16 : Nat, mR M15 14 1 = some b16 ∧ ok M15 b16 10 ∧ E h mdX8_abort [.ref b16, .int r3, .int r12] M15 (fun r M18 => mE M15 M18 → ∃ r19 : Int32, r = some (.int r19) ∧ (r10 = 0 → DX4_readAbort_81 h r19 M18 Q) ∧ (¬ (r10 = 0) → ∃ b20 : Nat, mR M18 14 1 = some b20 ∧ ∃ b21 : Nat, mR M18 14 1 = some b21 ∧ ok M18 b21 10 ∧ E h mdX8_make [.ref b21, .int 0] M18 (fun r M23 => mE M18 M23 → ∃ r24 : Int32, r = some (.int r24) ∧ ok M23 b20 10 ∧ E h mdX8_choice [.ref b20, .int r12, .int r24, .int r19] M23 (fun r M26 => mE M23 M26 → ∃ r27 : Int32, r = some (.int r27) ∧ DX4_readAbort_81 h r27 M26 Q))))
def TAb1 (h : Nat) (r3 r12 r10 : Int32) (Q : Option Value → Mem → Prop) (M11 : Mem) : Prop := ∃ b13 : Nat, mR M11 14 0 = some b13 ∧ ok M11 b13 9 ∧ E h mdX7_expect [.ref b13, .int 43] M11 (fun r M15 => mE M11 M15 → r = none ∧ TAb2 h r3 r12 r10 Q M15)
theorem V_ab2 (X : CX n0 τ M0 W B M f p ps tl t) (h1 : v < t) (H : VEnd n0 τ M0 W B f p ps tl t Q) : TAb2 (h + 6) (Int32.ofNat v) l r10 Q M := by
  have F := X.1.1
  refine ⟨4, rf14_1 F, ok4 F, V_op X (fun Θ hT ht h0 => ⟨abT Θ v l, ts_ab h0, fun Q' H' => S_ab F hT (by omega) H'⟩) (fun M1 v1 t1 X1 ht hv _ => ⟨_, rfl, fun _ => H M1 v1 t1 X1 ht hv, fun _ => ?_⟩)⟩
  have F1 := X1.1.1
  refine ⟨4, rf14_1 F1, 4, rf14_1 F1, ok4 F1, V_op X1 (fun Θ hT _ h1 => ⟨mkT Θ 0, ts_mk h1, fun Q' H' => S_mk F1 hT H'⟩) (fun M2 v2 t2 X2 ht2 hv2 _ => ⟨_, rfl, ok4 X2.1.1, ?_⟩)⟩
  exact V_op X2 (fun Θ hT ht h0 => ⟨chT Θ l v2 v1, ts_ch h0, fun Q' H' => S_ch X2.1.1 hT (by omega) (by omega) H'⟩) (fun M3 v3 t3 X3 ht3 hv3 _ => ⟨_, rfl, H M3 v3 t3 X3 (by omega) hv3⟩)
theorem V_ab1 (X : CX n0 τ M0 W B M f p ps tl t) (h1 : v < t) (H : VEnd n0 τ M0 W B f p ps tl t Q) : TAb1 (h + 6) (Int32.ofNat v) l r10 Q M := by
  have F := X.1.1
  exact ⟨15, rf14_0 F, ok15 F, V_expect X (by decide) (fun _ => ⟨rfl, V_ab2 X h1 H⟩)⟩
def TAb0 (h : Nat) (r3 : Int32) (Q : Option Value → Mem → Prop) (M2 : Mem) : Prop := ∃ b4 : Nat, mR M2 14 0 = some b4 ∧ ok M2 b4 9 ∧ E h mdX7_expect [.ref b4, .int 51] M2 (fun r M6 => mE M2 M6 → r = none ∧ ∃ b7 : Nat, mR M6 14 0 = some b7 ∧ ok M6 b7 9 ∧ E h mdX7_accept [.ref b7, .int 48] M6 (fun r M9 => mE M6 M9 → ∃ r10 : Int32, r = some (.int r10) ∧ E h mdX4_readCondition [.ref 14] M9 (fun r M11 => mE M9 M11 → ∃ r12 : Int32, r = some (.int r12) ∧ TAb1 h r3 r12 r10 Q M11)))
theorem V_abx (X : CX n0 τ M0 W B M f p ps tl t) (h1 : v < t) (H : VEnd n0 τ M0 W B f p ps tl t Q) : ∃ b7 : Nat, mR M 14 0 = some b7 ∧ ok M b7 9 ∧ E (h + 6) mdX7_accept [.ref b7, .int 48] M (fun r M9 => mE M M9 → ∃ r10 : Int32, r = some (.int r10) ∧ E (h + 6) mdX4_readCondition [.ref 14] M9 (fun r M11 => mE M9 M11 → ∃ r12 : Int32, r = some (.int r12) ∧ TAb1 (h + 6) (Int32.ofNat v) r12 r10 Q M11)) := by
  have F := X.1.1
  exact ⟨15, rf14_0 F, ok15 F, V_accept X (by decide) (fun _ => ⟨_, rfl, V_cond X (by omega) (fun _ => ⟨_, rfl, V_ab1 X h1 H⟩)⟩)⟩
theorem V_ab0 (X : CX n0 τ M0 W B M f p ps tl t) (h1 : v < t) (H : VEnd n0 τ M0 W B f p ps tl t Q) : TAb0 (h + 6) (Int32.ofNat v) Q M := by
  have F := X.1.1
  exact ⟨15, rf14_0 F, ok15 F, V_expect X (by decide) (fun _ => ⟨rfl, V_abx X h1 H⟩)⟩
theorem V_abort {d : Int32} (X : CX n0 τ M0 W B M f p ps tl t) (H : VEnd n0 τ M0 W B f p ps tl t Q) : E (h + 8) mdX4_readAbort [.ref 14, .int d] M Q := by
  refine KX4_readAbort ?_
  unfold DX4_readAbort_0
  exact ⟨ok14 X.1.1, V_trapped X (fun M1 v t1 X1 ht hv _ => ⟨_, rfl, V_ab0 (h := h + 1) X1 hv (H.up ht)⟩)⟩
/-- weak abort -/
def TWk2 (h : Nat) (r6 r15 r13 : Int32) (Q : Option Value → Mem → Prop) (M18 : Mem) : Prop := ∃ b19 : Nat, mR M18 14 1 = some b19 ∧ ok M18 b19 10 ∧ E h mdX8_weak [.ref b19, .int r6, .int r15, .int r13] M18 (fun r M21 => mE M18 M21 → ∃ r22 : Int32, r = some (.int r22) ∧ Q (some (.int r22)) M21)
def TWk1 (h : Nat) (r6 r15 r13 : Int32) (Q : Option Value → Mem → Prop) (M14 : Mem) : Prop := ∃ b16 : Nat, mR M14 14 0 = some b16 ∧ ok M14 b16 9 ∧ E h mdX7_expect [.ref b16, .int 43] M14 (fun r M18 => mE M14 M18 → r = none ∧ TWk2 h r6 r15 r13 Q M18)
def TWkx (h : Nat) (r6 : Int32) (Q : Option Value → Mem → Prop) (M9 : Mem) : Prop := ∃ b10 : Nat, mR M9 14 0 = some b10 ∧ ok M9 b10 9 ∧ E h mdX7_accept [.ref b10, .int 48] M9 (fun r M12 => mE M9 M12 → ∃ r13 : Int32, r = some (.int r13) ∧ E h mdX4_readCondition [.ref 14] M12 (fun r M14 => mE M12 M14 → ∃ r15 : Int32, r = some (.int r15) ∧ TWk1 h r6 r15 r13 Q M14))
def TWk0 (h : Nat) (r6 : Int32) (Q : Option Value → Mem → Prop) (M5 : Mem) : Prop := ∃ b7 : Nat, mR M5 14 0 = some b7 ∧ ok M5 b7 9 ∧ E h mdX7_expect [.ref b7, .int 51] M5 (fun r M9 => mE M5 M9 → r = none ∧ TWkx h r6 Q M9)
theorem V_wk2 (X : CX n0 τ M0 W B M f p ps tl t) (h1 : v < t) (H : VEnd n0 τ M0 W B f p ps tl t Q) : TWk2 (h + 6) (Int32.ofNat v) l (b32 im) Q M := by
  have F := X.1.1
  exact ⟨4, rf14_1 F, ok4 F, V_op X (fun Θ hT ht h0 => ⟨wkT Θ v l im, ts_wk h0, fun Q' H' => S_wk F hT (by omega) H'⟩) (fun M1 v1 t1 X1 ht hv _ => ⟨_, rfl, H M1 v1 t1 X1 ht hv⟩)⟩
theorem V_wk1 (X : CX n0 τ M0 W B M f p ps tl t) (h1 : v < t) (H : VEnd n0 τ M0 W B f p ps tl t Q) : TWk1 (h + 6) (Int32.ofNat v) l (b32 im) Q M := by
  have F := X.1.1
  exact ⟨15, rf14_0 F, ok15 F, V_expect X (by decide) (fun _ => ⟨rfl, V_wk2 X h1 H⟩)⟩
theorem V_wkx (X : CX n0 τ M0 W B M f p ps tl t) (h1 : v < t) (H : VEnd n0 τ M0 W B f p ps tl t Q) : TWkx (h + 6) (Int32.ofNat v) Q M := by
  have F := X.1.1
  exact ⟨15, rf14_0 F, ok15 F, V_accept X (by decide) (fun _ => ⟨_, rfl, V_cond X (by omega) (fun _ => ⟨_, rfl, V_wk1 (im := false) X h1 H⟩)⟩)⟩
theorem V_wk0 (X : CX n0 τ M0 W B M f p ps tl t) (h1 : v < t) (H : VEnd n0 τ M0 W B f p ps tl t Q) : TWk0 (h + 6) (Int32.ofNat v) Q M := by
  have F := X.1.1
  exact ⟨15, rf14_0 F, ok15 F, V_expect X (by decide) (fun _ => ⟨rfl, V_wkx X h1 H⟩)⟩
def TWk (h : Nat) (d : Int32) (Q : Option Value → Mem → Prop) (M4 : Mem) : Prop := E h mdX4_readTrapped [.ref 14, .long 0, .int d] M4 (fun r M5 => mE M4 M5 → ∃ r6 : Int32, r = some (.int r6) ∧ TWk0 h r6 Q M5)
theorem V_wk {d : Int32} (X : CX n0 τ M0 W B M f p ps tl t) (H : VEnd n0 τ M0 W B f p ps tl t Q) : TWk (h + 7) d Q M := V_trapped X (fun M1 v t1 X1 ht hv _ => ⟨_, rfl, V_wk0 (h := h + 1) X1 hv (H.up ht)⟩)
theorem V_weak {d : Int32} (X : CX n0 τ M0 W B M f p ps tl t) (H : VEnd n0 τ M0 W B f p ps tl t Q) : E (h + 8) mdX4_readWeak [.ref 14, .int d] M Q := by
  have F := X.1.1
  refine KX4_readWeak ?_
  unfold DX4_readWeak_0
  exact ⟨ok14 F, 15, rf14_0 F, ok15 F, V_expect X (by decide) (fun _ => ⟨rfl, V_wk X H⟩)⟩
/-- suspend -/
def TSu2 (h : Nat) (r3 r8 : Int32) (Q : Option Value → Mem → Prop) (M11 : Mem) : Prop := ∃ b12 : Nat, mR M11 14 1 = some b12 ∧ ok M11 b12 10 ∧ E h mdX8_suspend [.ref b12, .int r3, .int r8] M11 (fun r M14 => mE M11 M14 → ∃ r15 : Int32, r = some (.int r15) ∧ Q (some (.int r15)) M14)
def TSu1 (h : Nat) (r3 r8 : Int32) (Q : Option Value → Mem → Prop) (M7 : Mem) : Prop := ∃ b9 : Nat, mR M7 14 0 = some b9 ∧ ok M7 b9 9 ∧ E h mdX7_expect [.ref b9, .int 43] M7 (fun r M11 => mE M7 M11 → r = none ∧ TSu2 h r3 r8 Q M11)
def TSux (h : Nat) (r3 : Int32) (Q : Option Value → Mem → Prop) (M6 : Mem) : Prop := E h mdX4_readCondition [.ref 14] M6 (fun r M7 => mE M6 M7 → ∃ r8 : Int32, r = some (.int r8) ∧ TSu1 h r3 r8 Q M7)
def TSu0 (h : Nat) (r3 : Int32) (Q : Option Value → Mem → Prop) (M2 : Mem) : Prop := ∃ b4 : Nat, mR M2 14 0 = some b4 ∧ ok M2 b4 9 ∧ E h mdX7_expect [.ref b4, .int 51] M2 (fun r M6 => mE M2 M6 → r = none ∧ TSux h r3 Q M6)
theorem V_su2 (X : CX n0 τ M0 W B M f p ps tl t) (h1 : v < t) (H : VEnd n0 τ M0 W B f p ps tl t Q) : TSu2 (h + 6) (Int32.ofNat v) l Q M := by
  have F := X.1.1
  exact ⟨4, rf14_1 F, ok4 F, V_op X (fun Θ hT ht h0 => ⟨suT Θ v l, ts_su h0, fun Q' H' => S_su F hT (by omega) H'⟩) (fun M1 v1 t1 X1 ht hv _ => ⟨_, rfl, H M1 v1 t1 X1 ht hv⟩)⟩
theorem V_su1 (X : CX n0 τ M0 W B M f p ps tl t) (h1 : v < t) (H : VEnd n0 τ M0 W B f p ps tl t Q) : TSu1 (h + 6) (Int32.ofNat v) l Q M := by
  have F := X.1.1
  exact ⟨15, rf14_0 F, ok15 F, V_expect X (by decide) (fun _ => ⟨rfl, V_su2 X h1 H⟩)⟩
theorem V_sux (X : CX n0 τ M0 W B M f p ps tl t) (h1 : v < t) (H : VEnd n0 τ M0 W B f p ps tl t Q) : TSux (h + 6) (Int32.ofNat v) Q M := V_cond X (by omega) (fun _ => ⟨_, rfl, V_su1 X h1 H⟩)
theorem V_su0 (X : CX n0 τ M0 W B M f p ps tl t) (h1 : v < t) (H : VEnd n0 τ M0 W B f p ps tl t Q) : TSu0 (h + 6) (Int32.ofNat v) Q M := by
  have F := X.1.1
  exact ⟨15, rf14_0 F, ok15 F, V_expect X (by decide) (fun _ => ⟨rfl, V_sux X h1 H⟩)⟩
theorem V_suspend {d : Int32} (X : CX n0 τ M0 W B M f p ps tl t) (H : VEnd n0 τ M0 W B f p ps tl t Q) : E (h + 8) mdX4_readSuspend [.ref 14, .int d] M Q := by
  refine KX4_readSuspend ?_
  unfold DX4_readSuspend_0
  exact ⟨ok14 X.1.1, V_seq X (fun M1 v t1 X1 ht hv _ => ⟨_, rfl, V_su0 (h := h + 1) X1 hv (H.up ht)⟩)⟩
end
end
section
/-! the class reads parts: every, trap, branches behind a fault -/
section
variable {n0 : Nat} {τ : Td} {M0 M M' : Mem} {ps : List Nat} {tl : List Int64} {f c : Int32} {p t t' h B a x j v v1 v2 : Nat} {Q : Option Value → Mem → Prop} {k l r10 : Int32} {im : Bool} {W : Nat}
/-- every: behind its 'end' -/
def TEv2 (h : Nat) (r7 r11 r16 : Int32) (Q : Option Value → Mem → Prop) (M19 : Mem) : Prop := ∃ b20 : Nat, mR M19 14 1 = some b20 ∧ ∃ b21 : Nat, mR M19 14 1 = some b21 ∧ ok M19 b21 10 ∧ E h mdX8_halt [.ref b21] M19 (fun r M23 => mE M19 M23 → ∃ r24 : Int32, r = some (.int r24) ∧ ok M23 b20 10 ∧ E h mdX8_pair [.ref b20, .int 5, .int r16, .int r24] M23 (fun r M26 => mE M23 M26 → ∃ r27 : Int32, r = some (.int r27) ∧ ∃ b28 : Nat, mR M26 14 1 = some b28 ∧ ∃ b29 : Nat, mR M26 14 1 = some b29 ∧ ∃ b30 : Nat, mR M26 14 1 = some b30 ∧ ok M26 b30 10 ∧ E h mdX8_abort [.ref b30, .int r27, .int r7] M26 (fun r M32 => mE M26 M32 → ∃ r33 : Int32, r = some (.int r33) ∧ ok M32 b29 10 ∧ E h mdX8_wrap [.ref b29, .int 6, .int r33] M32 (fun r M35 => mE M32 M35 → ∃ r36 : Int32, r = some (.int r36) ∧ ok M35 b28 10 ∧ E h mdX8_pair [.ref b28, .int 5, .int r11, .int r36] M35 (fun r M38 => mE M35 M38 → ∃ r39 : Int32, r = some (.int r39) ∧ Q (some (.int r39)) M38)))))
def TEv1 (h : Nat) (r7 r11 r16 : Int32) (Q : Option Value → Mem → Prop) (M15 : Mem) : Prop := ∃ b17 : Nat, mR M15 14 0 = some b17 ∧ ok M15 b17 9 ∧ E h mdX7_expect [.ref b17, .int 43] M15 (fun r M19 => mE M15 M19 → r = none ∧ TEv2 h r7 r11 r16 Q M19)
def TEvx (h : Nat) (r7 r11 d : Int32) (Q : Option Value → Mem → Prop) (M14 : Mem) : Prop := E h mdX4_readTrapped [.ref 14, .long 0, .int d] M14 (fun r M15 => mE M14 M15 → ∃ r16 : Int32, r = some (.int r16) ∧ TEv1 h r7 r11 r16 Q M15)
def TEvd (h : Nat) (r7 r11 d : Int32) (Q : Option Value → Mem → Prop) (M10 : Mem) : Prop := ∃ b12 : Nat, mR M10 14 0 = some b12 ∧ ok M10 b12 9 ∧ E h mdX7_expect [.ref b12, .int 54] M10 (fun r M14 => mE M10 M14 → r = none ∧ TEvx h r7 r11 d Q M14)
def TEvw (h : Nat) (r7 r5 d : Int32) (Q : Option Value → Mem → Prop) (M6 : Mem) : Prop := ∃ b8 : Nat, mR M6 14 1 = some b8 ∧ ok M6 b8 10 ∧ E h mdX8_await [.ref b8, .int r7, .int r5] M6 (fun r M10 => mE M6 M10 → ∃ r11 : Int32, r = some (.int r11) ∧ TEvd h r7 r11 d Q M10)
theorem V_ev2 (X : CX n0 τ M0 W B M f p ps tl t) (h1 : v < t) (h2 : v2 < t) (H : VEnd n0 τ M0 W B f p ps tl t Q) : TEv2 (h + 6) l (Int32.ofNat v2) (Int32.ofNat v) Q M := by
  have F := X.1.1
  refine ⟨4, rf14_1 F, 4, rf14_1 F, ok4 F, V_op X (fun Θ hT ht h0 => ⟨haT Θ, ts_ha h0, fun Q' H' => S_ha F hT H'⟩) (fun M1 w1 t1 X1 q1 u1 _ => ⟨_, rfl, ok4 X1.1.1, ?_⟩)⟩
  have F1 := X1.1.1
  refine V_op X1 (fun Θ hT ht h0 => ⟨prT Θ 5 v w1, ts_pr h0, fun Q' H' => S_pr F1 hT (by omega) (by omega) H'⟩) (fun M2 w2 t2 X2 q2 u2 _ => ⟨_, rfl, ?_⟩)
  have F2 := X2.1.1
  refine ⟨4, rf14_1 F2, 4, rf14_1 F2, 4, rf14_1 F2, ok4 F2, V_op X2 (fun Θ hT ht h0 => ⟨abT Θ w2 l, ts_ab h0, fun Q' H' => S_ab F2 hT (by omega) H'⟩) (fun M3 w3 t3 X3 q3 u3 _ => ⟨_, rfl, ok4 X3.1.1, ?_⟩)⟩
  refine V_op X3 (fun Θ hT ht h0 => ⟨wrT Θ 6 w3, ts_wr h0, fun Q' H' => S_wr X3.1.1 hT (by omega) H'⟩) (fun M4 w4 t4 X4 q4 u4 _ => ⟨_, rfl, ok4 X4.1.1, ?_⟩)
  exact V_op X4 (fun Θ hT ht h0 => ⟨prT Θ 5 v2 w4, ts_pr h0, fun Q' H' => S_pr X4.1.1 hT (by omega) (by omega) H'⟩) (fun M5 w5 t5 X5 q5 u5 _ => ⟨_, rfl, H M5 w5 t5 X5 (by omega) u5⟩)
theorem V_ev1 (X : CX n0 τ M0 W B M f p ps tl t) (h1 : v < t) (h2 : v2 < t) (H : VEnd n0 τ M0 W B f p ps tl t Q) : TEv1 (h + 6) l (Int32.ofNat v2) (Int32.ofNat v) Q M := by
  have F := X.1.1
  exact ⟨15, rf14_0 F, ok15 F, V_expect X (by decide) (fun _ => ⟨rfl, V_ev2 X h1 h2 H⟩)⟩
theorem V_evx {d : Int32} (X : CX n0 τ M0 W B M f p ps tl t) (h2 : v2 < t) (H : VEnd n0 τ M0 W B f p ps tl t Q) : TEvx (h + 7) l (Int32.ofNat v2) d Q M := V_trapped X (fun M1 v t1 X1 ht hv _ => ⟨_, rfl, V_ev1 (h := h + 1) X1 hv (by omega) (H.up ht)⟩)
theorem V_evd {d : Int32} (X : CX n0 τ M0 W B M f p ps tl t) (h2 : v2 < t) (H : VEnd n0 τ M0 W B f p ps tl t Q) : TEvd (h + 7) l (Int32.ofNat v2) d Q M := by
  have F := X.1.1
  exact ⟨15, rf14_0 F, ok15 F, V_expect X (by decide) (fun _ => ⟨rfl, V_evx X h2 H⟩)⟩
theorem V_evw {d : Int32} (X : CX n0 τ M0 W B M f p ps tl t) (H : VEnd n0 τ M0 W B f p ps tl t Q) : TEvw (h + 7) l (b32 im) d Q M := by
  have F := X.1.1
  exact ⟨4, rf14_1 F, ok4 F, V_op X (fun Θ hT ht h0 => ⟨awT Θ l im, ts_aw h0, fun Q' H' => S_aw F hT H'⟩) (fun M1 w1 t1 X1 q1 u1 _ => ⟨_, rfl, V_evd X1 u1 (H.up q1)⟩)⟩
theorem V_every {d : Int32} (X : CX n0 τ M0 W B M f p ps tl t) (H : VEnd n0 τ M0 W B f p ps tl t Q) : E (h + 8) mdX4_readEvery [.ref 14, .int d] M Q := by
  have F := X.1.1
  refine KX4_readEvery ?_
  unfold DX4_readEvery_0
  exact ⟨ok14 F, 15, rf14_0 F, ok15 F, V_accept X (by decide) (fun _ => ⟨_, rfl, V_cond X (by omega) (fun _ => ⟨_, rfl, V_evw (im := false) X H⟩)⟩)⟩
/-- trap -/
def TTr2 (h : Nat) (r9 : Int32) (Q : Option Value → Mem → Prop) (M12 : Mem) : Prop := ∃ b13 : Nat, mR M12 14 1 = some b13 ∧ ok M12 b13 10 ∧ E h mdX8_wrap [.ref b13, .int 9, .int r9] M12 (fun r M15 => mE M12 M15 → ∃ r16 : Int32, r = some (.int r16) ∧ Q (some (.int r16)) M15)
def TTr1 (h : Nat) (r9 : Int32) (Q : Option Value → Mem → Prop) (M8 : Mem) : Prop := ∃ b10 : Nat, mR M8 14 0 = some b10 ∧ ok M8 b10 9 ∧ E h mdX7_expect [.ref b10, .int 43] M8 (fun r M12 => mE M8 M12 → r = none ∧ TTr2 h r9 Q M12)
def TTrx (h : Nat) (c : Int64) (d : Int32) (Q : Option Value → Mem → Prop) (M7 : Mem) : Prop := E h mdX4_readTrapped [.ref 14, .long c, .int d] M7 (fun r M8 => mE M7 M8 → ∃ r9 : Int32, r = some (.int r9) ∧ TTr1 h r9 Q M8)
theorem V_tr2 (X : CX n0 τ M0 W B M f p ps tl t) (h1 : v < t) (H : VEnd n0 τ M0 W B f p ps tl t Q) : TTr2 (h + 6) (Int32.ofNat v) Q M := by
  have F := X.1.1
  exact ⟨4, rf14_1 F, ok4 F, V_op X (fun Θ hT ht h0 => ⟨wrT Θ 9 v, ts_wr h0, fun Q' H' => S_wr F hT (by omega) H'⟩) (fun M1 v1 t1 X1 ht hv _ => ⟨_, rfl, H M1 v1 t1 X1 ht hv⟩)⟩
theorem V_tr1 (X : CX n0 τ M0 W B M f p ps tl t) (h1 : v < t) (H : VEnd n0 τ M0 W B f p ps tl t Q) : TTr1 (h + 6) (Int32.ofNat v) Q M := by
  have F := X.1.1
  exact ⟨15, rf14_0 F, ok15 F, V_expect X (by decide) (fun _ => ⟨rfl, V_tr2 X h1 H⟩)⟩
theorem V_trx {d : Int32} {c : Int64} (X : CX n0 τ M0 W B M f p ps tl t) (H : VEnd n0 τ M0 W B f p ps tl t Q) : TTrx (h + 7) c d Q M := V_trapped X (fun M1 v t1 X1 ht hv _ => ⟨_, rfl, V_tr1 (h := h + 1) X1 hv (H.up ht)⟩)
theorem V_tr58 {d : Int32} {c : Int64} (X : CX n0 τ M0 W B M f p ps tl t) (H : VEnd n0 τ M0 W B f p ps tl t Q) : DX4_readTrap_58 (h + 7) 14 d c M Q := by
  have F := X.1.1
  unfold DX4_readTrap_58
  exact ⟨ok14 F, 15, rf14_0 F, ok15 F, V_adv X (fun _ => ⟨rfl, 15, rf14_0 F, ok15 F, V_expect X (by decide) (fun _ => ⟨rfl, V_trx X H⟩)⟩)⟩
theorem V_trap {d : Int32} (X : CX n0 τ M0 W B M f p ps tl t) (H : VEnd n0 τ M0 W B f p ps tl t Q) : E (h + 8) mdX4_readTrap [.ref 14, .int d] M Q := by
  have F := X.1.1
  refine KX4_readTrap ?_
  unfold DX4_readTrap_0
  refine ⟨ok14 F, 15, rf14_0 F, ok15 F, 15, rf14_0 F, ok15 F, fun z => absurd z (by rw [X.1.2.2.2.2.2]; decide), fun _ => ⟨15, rf14_0 F, ok15 F, V_fail X (fun _ => ⟨rfl, V_tr58 X H⟩)⟩⟩
/-- branches -/
theorem CX.gu {q : Nat} {w : Int32} (X : CX n0 τ M0 W B M f p ps tl t) (hq : q = 5 ∨ q = 6) (e : M' = wI M 14 q w) : CX n0 τ M0 W B M' f p ps tl t := by
  obtain ⟨h1, γ, cn, h2, h3⟩ := X
  have T' : TF M' f p := by rw [e]; exact h1.fr h1.1.i w14
  rcases hq with rfl | rfl
  · exact ⟨T', _, cn, h2.gv h1.1 e, h3⟩
  · exact ⟨T', _, cn, h2.uv h1.1 e, h3⟩
theorem V_br153 {x3 x4 x5 x6 : Int32} (X : CX n0 τ M0 W B M f p ps tl t) (h1 : v < t) (H : VEnd n0 τ M0 W B f p ps tl t Q) : DX4_readBranches_153 (h + 2) 14 x3 x4 x5 x6 (Int32.ofNat v) M Q := by
  unfold DX4_readBranches_153
  refine ⟨ok14 X.1.1, fun M2 e2 M3 e3 => ?_⟩
  have X3 := (X.gu (Or.inl rfl) e2).gu (Or.inr rfl) e3
  have F := X3.1.1
  exact ⟨15, rf14_0 F, ok15 F, V_expect X3 (by decide) (fun _ => ⟨rfl, H M3 v t X3 (Nat.le_refl _) h1⟩)⟩
theorem V_br91 {d x3 x4 x5 x6 x8 : Int32} (X : CX n0 τ M0 W B M f p ps tl t) (h1 : v < t) (H : VEnd n0 τ M0 W B f p ps tl t Q) : DX4_readBranches_91 (h + 2) 14 x d x3 x4 x5 x6 (Int32.ofNat v) x8 M Q := by
  have F := X.1.1
  unfold DX4_readBranches_91
  exact ⟨ok14 F, 15, rf14_0 F, ok15 F, fun z => absurd z (by rw [X.1.2.2.2.2.2]; decide), fun _ => V_br153 X h1 H⟩
def TBr (h x : Nat) (d x3 x4 x5 x6 x7 x8 : Int32) (Q : Option Value → Mem → Prop) (M8 : Mem) : Prop := (¬ ((mI M8 14 5) &&& (x5 ||| x6)) = 0 → DX4_readBranches_85 h 14 x d x3 x4 x5 x6 x7 x8 M8 Q) ∧ (((mI M8 14 5) &&& (x5 ||| x6)) = 0 → (((mI M8 14 6) &&& x5) = 0 → DX4_readBranches_91 h 14 x d x3 x4 x5 x6 x7 x8 M8 Q) ∧ (¬ (((mI M8 14 6) &&& x5) = 0) → DX4_readBranches_85 h 14 x d x3 x4 x5 x6 x7 x8 M8 Q))
theorem V_br {d x3 x4 x5 x6 x8 : Int32} (X : CX n0 τ M0 W B M f p ps tl t) (hj : j < ps.length) (h1 : v < t) (H : VEnd n0 τ M0 W B f p ps tl t Q) : TBr (h + 2) (ps.getD j 0) d x3 x4 x5 x6 (Int32.ofNat v) x8 Q M := by
  have w : DX4_readBranches_85 (h + 2) 14 (ps.getD j 0) d x3 x4 x5 x6 (Int32.ofNat v) x8 M Q := by
    unfold DX4_readBranches_85
    exact ⟨X.part hj, fun M2 e2 => V_br91 (X.pt hj e2) h1 H⟩
  exact ⟨fun _ => w, fun _ => ⟨fun _ => V_br91 X h1 H, fun _ => w⟩⟩
theorem V_br31 {d x3 x4 x5 x6 x8 : Int32} (X : CX n0 τ M0 W B M f p ps tl t) (hj : j < ps.length) (h1 : v < t) (H : VEnd n0 τ M0 W B f p ps tl t Q) : T (h + 7) mdX4_readBranches 31 [(0, .ref 14), (1, .ref (ps.getD j 0)), (2, .int d), (3, .int x3), (4, .int x4), (5, .int x5), (6, .int x6), (7, .int (Int32.ofNat v)), (8, .int x8)] [] M Q := by
  refine VX4_readBranches_31 ?_
  unfold DX4_readBranches_31
  refine ⟨fun _ => V_br153 X h1 H, fun _ => ⟨ok14 X.1.1, fun M2 e2 M3 e3 => ?_⟩⟩
  have X3 := (X.gu (Or.inl rfl) e2).gu (Or.inr rfl) e3
  refine ⟨4, rf14_1 X3.1.1, V_seq X3 (fun M5 w t5 X5 ht hw _ => ⟨_, rfl, ok4 X5.1.1, V_hg X5 (by omega) hw (fun M8 X8 _ => ⟨rfl, V_br X8 hj (by omega) (H.up ht)⟩)⟩)⟩
theorem V_branches {d : Int32} (X : CX n0 τ M0 W B M f p ps tl t) (hj : j < ps.length) (H : VEnd n0 τ M0 W B f p ps tl t Q) : E (h + 7) mdX4_readBranches [.ref 14, .ref (ps.getD j 0), .int d] M Q := by
  have F := X.1.1
  refine KX4_readBranches ?_
  unfold DX4_readBranches_0
  exact ⟨ok14 F, 4, rf14_1 F, ok4 F, V_op X (fun Θ hT ht h0 => ⟨mkT Θ 8, ts_mk h0, fun Q' H' => S_mk F hT H'⟩) (fun M1 w1 t1 X1 q1 u1 _ => ⟨_, rfl, V_br31 X1 hj u1 (H.up q1)⟩)⟩
end
end
section
/-! the class reads parts: rows -/
section
variable {b : Nat → Int32} {n s n0 m : Nat} {τ : Td} {M0 M M' : Mem} {i o j g : Nat} {γ : ClT} {σ : PS} {K : List KE} {cn : Nat → Nat} {ps : List Nat} {tl : List Int64} {f c : Int32} {p t t' h B t0 t1 : Nat} {Q : Option Value → Mem → Prop} {Q1 : Int32 → Mem → Prop} {W : Nat}
/-- what a part comes to behind its first token -/
def bdM (b : Nat → Int32) (n m : Nat) (τ : Td) (g : Nat) (K : List KE) (i : Nat) (k : Int32) (w : Int64) (j : Nat) (σ0 : PS) : Except (Int32 × Nat) (Nat × PS × Nat) :=
  if opnK k = false then lfM b n m τ k w j i K σ0
  else (hdM b n m τ k j i K σ0).bind fun r =>
    if k = 17 then (rp b n m τ g 3 K r.1 (rwP (40 * m + j) none r.2.1) r.2.2.2.2.1 j (r.2.1.1.1 4) 1 0 0).bind fun q => .ok (q.1, guP q.2.1 (giS σ0 ||| giS q.2.1) (usS σ0 ||| usS q.2.1), q.2.2)
    else (rp b n m τ g 0 ((40 * m + j, r.2.1.1.1 4, 1, r.2.2.2.2.2) :: K) r.1 (rwP (40 * m + j) none r.2.1) 0 0 0 0 0 0).bind fun q =>
      if k = 44 ∨ k = 58 then (if tK b n q.1 = 46 then (adv' b n q.1).bind fun i2 => (rp b n m τ g 0 ((40 * m + j, q.2.1.1.1 4, 2, none) :: K) i2 (rwP (40 * m + j) (some (r.2.1.1.1 4)) q.2.1) 0 0 0 0 0 0).bind fun t => chM b n r.2.2.1 q.2.2 t.2.2 t.1 t.2.1
        else chM b n r.2.2.1 q.2.2 (mkT (trS q.2.1) 0).2 q.1 (trP1 q.2.1 (mkT (trS q.2.1) 0).1))
      else tlM b n m τ k j r.2.2.2.2.1 r.2.2.1 q.2.2 q.1 (K.length + 1) q.2.1
theorem rp_bd {a1 a2 a3 a4 : Nat} {c1 c2 : Int32} : rp b n m τ (g + 1) 2 K i σ a1 a2 a3 a4 c1 c2 = (okK (tK b n i) (tC b n i) K.length τ σ (tP b n i)).bind fun _ => (adv' b n i).bind fun i1 => (bdM b n m τ g K i1 (tK b n i) (tC b n i) (npS σ) (bgP m (tK b n i) (tP b n i) (sqK K) K.length (whK (tK b n i) (tC b n i) τ) σ)).bind fun u => .ok (u.1, fiP m (npS σ) u.2.2 u.2.1, u.2.2) := by
  conv => lhs; unfold rp
  rw [if_neg (show ¬ (2 : Nat) = 0 by decide), if_neg (show ¬ (2 : Nat) = 1 by decide), if_pos (show (2 : Nat) = 2 from rfl)]
  refine congrArg (Except.bind _) (funext fun _ => congrArg (Except.bind _) (funext fun i1 => ?_))
  unfold bdM
  by_cases ko : opnK (tK b n i) = false
  · rw [if_pos ko, if_pos ko]
  · rw [if_neg ko, if_neg ko, ebA]
    refine congrArg (Except.bind _) (funext fun r => ?_)
    by_cases k17 : tK b n i = 17
    · rw [if_pos k17, if_pos k17, ebA]
      rfl
    · rw [if_neg k17, if_neg k17, ebA]
      refine congrArg (Except.bind _) (funext fun q => ?_)
      by_cases kc : tK b n i = 44 ∨ tK b n i = 58
      · rw [if_pos kc, if_pos kc]
        by_cases k46 : tK b n q.1 = 46
        · rw [if_pos k46, if_pos k46, ebA]
          refine congrArg (Except.bind _) (funext fun i2 => ?_)
          rw [ebA]
        · rw [if_neg k46, if_neg k46]
      · rw [if_neg kc, if_neg kc]
theorem hc_facts {a2 a3 : Nat} {r : Nat × PS × Nat × Bool × Nat × Option Int64} (hS : Sto b n s) (hi : i ≤ s) (h0 : tK b n i ≠ 0) (hI : RpI m 2 K σ a2 a3) (ho : okK (tK b n i) (tC b n i) K.length τ σ (tP b n i) = .ok ()) (ha : tK b n (i + 1) ≠ 0) (hop : opnK (tK b n i) = true) (e : hdM b n m τ (tK b n i) (npS σ) (i + 1) K (bgP m (tK b n i) (tP b n i) (sqK K) K.length (whK (tK b n i) (tC b n i) τ) σ) = .ok r) :
    (tK b n r.1 ≠ 0 ∧ r.1 ≤ s ∧ i < r.1) ∧ PsOk m (rwP (40 * m + npS σ) none r.2.1) ∧ (npS (rwP (40 * m + npS σ) none r.2.1) = npS σ + 1 ∧ (rwP (40 * m + npS σ) none r.2.1).1.1 4 = σ.1.1 4 + 1 ∧ r.2.1.1.1 4 = σ.1.1 4) ∧ (K.length ≤ 14 ∧ npS σ < 40) ∧ (1 ≤ (trS σ).1 → (trS σ).1 ≤ (trS r.2.1).1 ∧ r.2.2.2.2.1 < (trS r.2.1).1) ∧ Pv m (40 * m + npS σ) σ (rwP (40 * m + npS σ) none r.2.1) := by
  obtain ⟨hP, hK, hq, -, -, hc⟩ := hI
  obtain ⟨o1, o2, o3, o4, o5⟩ := okK_ok ho
  have n1 : tK b n i ≠ 1 := fun z => o2 (by rw [z]; exact soK_1)
  have hs := hS.lt hi h0 n1
  have hok := hdM_ok (F := True) (m := m) (τ := τ) (k := tK b n i) (j := npS σ) (K := K) (σ := bgP m (tK b n i) (tP b n i) (sqK K) K.length (whK (tK b n i) (tC b n i) τ) σ) hS (i := i + 1) hs ha
  rw [e] at hok
  obtain ⟨q1, q2, q3, hH, haw⟩ := hok
  obtain ⟨n1', n2', n3', -⟩ := bg_n (m := m) (σ := σ) (k := tK b n i) (pl := tP b n i) (q := sqK K) (d := K.length) (wh := whK (tK b n i) (tC b n i) τ)
  have okr : PsOk m r.2.1 := (hP.bg o3 o4 hK (hq (by decide))).hd hH
  have en : npS r.2.1 = npS σ + 1 := by rw [← n1']; unfold npS; rw [hH.1]
  have e4 : r.2.1.1.1 4 = σ.1.1 4 := by rw [hH.1]; exact n2'
  obtain ⟨m1, m2, -⟩ := rw_n (σ := r.2.1) (p := 40 * m + npS σ) (q0 := none)
  have hl14 : K.length ≤ 14 := by
    have : K.length ≠ 15 := fun z => o5 ⟨hop, z⟩
    omega
  have pb : Pv m (40 * m + npS σ) σ (bgP m (tK b n i) (tP b n i) (sqK K) K.length (whK (tK b n i) (tC b n i) τ) σ) := Pv.bg (Nat.le_refl _)
  refine ⟨⟨q3, q2, by omega⟩, okr.rw, ⟨m1.trans en, by rw [m2, e4], e4⟩, ⟨hl14, o3⟩, fun z => ⟨?_, ?_⟩, (pb.tr (Pv.hd hH (Nat.le_refl _))).tr (Pv.rw (fun _ => Nat.le_refl _))⟩
  · have := hH.2.2.2 (by rw [n3']; exact z)
    rw [n3'] at this
    exact this
  · exact haw (by rw [n3']; exact z)
theorem adv_is {i1 : Nat} (h : adv' b n i = .ok i1) : i1 = i + 1 ∧ tK b n (i + 1) ≠ 0 := by
  unfold adv' at h
  by_cases k : tK b n (i + 1) = 0
  · rw [if_pos k] at h; cases h
  · rw [if_neg k] at h; cases h; exact ⟨rfl, k⟩
/-- a part that is read is one more -/
theorem rp_np {a1 a2 a3 a4 : Nat} {c1 c2 : Int32} {r : Nat × PS × Nat} (hS : Sto b n s) (hi : i ≤ s) (h0 : tK b n i ≠ 0) (hI : RpI m 2 K σ a2 a3) (e : rp b n m τ g 2 K i σ a1 a2 a3 a4 c1 c2 = .ok r) : npS σ < npS r.2.1 := by
  cases g with
  | zero => unfold rp at e; cases e
  | succ g =>
    rw [rp_bd] at e
    obtain ⟨x, eo, e⟩ := bind_ok e
    obtain ⟨i1, ea, e⟩ := bind_ok e
    obtain ⟨rfl, ha⟩ := adv_is ea
    obtain ⟨u, eb, e⟩ := bind_ok e
    cases e
    show npS σ < npS u.2.1
    have hn := (bg_n (m := m) (σ := σ) (k := tK b n i) (pl := tP b n i) (q := sqK K) (d := K.length) (wh := whK (tK b n i) (tC b n i) τ)).1
    obtain ⟨o1, o2, o3, o4, o5⟩ := okK_ok eo
    have hs := hS.lt hi h0 (fun z => o2 (by rw [z]; exact soK_1))
    unfold bdM at eb
    by_cases ko : opnK (tK b n i) = false
    · rw [if_pos ko] at eb
      have := lfM_ok (F := True) (m := m) (τ := τ) (k := tK b n i) (w := tC b n i) (j := npS σ) (K := K) (σ := bgP m (tK b n i) (tP b n i) (sqK K) K.length (whK (tK b n i) (tC b n i) τ) σ) hS (i := i + 1) hs ha
      rw [eb] at this
      have e1 := this.2.2.2.1.1
      have : npS u.2.1 = npS σ + 1 := by rw [← hn]; unfold npS; rw [e1]
      omega
    · rw [if_neg ko] at eb
      have hop : opnK (tK b n i) = true := by cases ht : opnK (tK b n i) with
        | false => exact absurd ht ko
        | true => rfl
      obtain ⟨q, eh, eb⟩ := bind_ok eb
      obtain ⟨⟨t0, t1, t2⟩, okw, ⟨m1, m2, m3⟩, ⟨hl, o3⟩, -, prw⟩ := hc_facts hS hi h0 hI eo ha hop eh
      have hc := hI.2.2.2.2.2
      by_cases k17 : tK b n i = 17
      · rw [if_pos k17] at eb
        obtain ⟨y, e3, eb⟩ := bind_ok eb
        cases eb
        have := rp_ok (τ := τ) (m := m) hS g 3 K q.1 (rwP (40 * m + npS σ) none q.2.1) q.2.2.2.2.1 (npS σ) (q.2.1.1.1 4) 1 0 0 (by decide) t1 t0 ⟨okw, hI.2.1, fun z => absurd z (by decide), fun _ => ⟨hl, by rw [m2, m3]; exact Nat.lt_succ_self _, by rw [m1]; exact Nat.lt_succ_self _⟩, fun z => absurd z (by decide), by rw [m2, m1]; omega⟩
        rw [e3] at this
        have := this.2.2.2.1.1.1
        show npS σ < npS y.2.1
        omega
      · rw [if_neg k17] at eb
        obtain ⟨y, e0, eb⟩ := bind_ok eb
        have ok0 := rp_ok (τ := τ) (m := m) hS g 0 ((40 * m + npS σ, q.2.1.1.1 4, 1, q.2.2.2.2.2) :: K) q.1 (rwP (40 * m + npS σ) none q.2.1) 0 0 0 0 0 0 (by decide) t1 t0 ⟨okw, by show K.length + 1 ≤ 15; omega, fun _ => by show q.2.1.1.1 4 < _; rw [m2, m3]; exact Nat.lt_succ_self _, fun z => absurd z (by decide), fun z => absurd z (by decide), by rw [m2, m1]; omega⟩
        rw [e0] at ok0
        obtain ⟨k1, k2, k3, ⟨p1, p2, p3, p4⟩, k5⟩ := ok0
        have hnq : npS σ + 1 ≤ npS y.2.1 := by have := p1.1; rw [m1] at this; exact this
        by_cases kc : tK b n i = 44 ∨ tK b n i = 58
        · rw [if_pos kc] at eb
          by_cases k46 : tK b n y.1 = 46
          · rw [if_pos k46] at eb
            obtain ⟨i2, ea2, eb⟩ := bind_ok eb
            obtain ⟨rfl, ha2⟩ := adv_is ea2
            obtain ⟨w, e2, eb⟩ := bind_ok eb
            obtain ⟨z1, z2, -⟩ := rw_n (σ := y.2.1) (p := 40 * m + npS σ) (q0 := some (q.2.1.1.1 4))
            have ok2 := rp_ok (τ := τ) (m := m) hS g 0 ((40 * m + npS σ, y.2.1.1.1 4, 2, none) :: K) (y.1 + 1) (rwP (40 * m + npS σ) (some (q.2.1.1.1 4)) y.2.1) 0 0 0 0 0 0 (by decide) (hS.lt k2 k3 (by rw [k46]; decide)) ha2 ⟨p2.rw, by show K.length + 1 ≤ 15; omega, fun _ => by show y.2.1.1.1 4 < _; rw [z2]; exact Nat.lt_succ_self _, fun z => absurd z (by decide), fun z => absurd z (by decide), by rw [z2, z1]; omega⟩
            rw [e2] at ok2
            have h1 := ok2.2.2.2.1.1.1
            rw [z1] at h1
            unfold chM at eb
            obtain ⟨i3, -, eb⟩ := bind_ok eb
            cases eb
            show npS σ < npS w.2.1
            omega
          · rw [if_neg k46] at eb
            unfold chM at eb
            obtain ⟨i3, -, eb⟩ := bind_ok eb
            cases eb
            show npS σ < npS y.2.1
            omega
        · rw [if_neg kc] at eb
          have ot := tlM_ok (F := True) (b := b) (n := n) (s := s) (m := m) (τ := τ) (k := tK b n i) (j := npS σ) (aw := q.2.2.2.2.1) (lit := q.2.2.1) (x := y.2.2) (o := K.length + 1) (σ := y.2.1) hS k2
          rw [eb] at ot
          have e1 := ot.2.2.2.1.1
          have : npS u.2.1 = npS y.2.1 := by unfold npS; rw [e1]
          omega
theorem EdP.ext {e : List Nat} {R : Except (Int32 × Nat) (Nat × PS × Nat)} (hE : EdP b n s n0 τ M0 o ps tl t0 Q1 R) (ht : t0 ≤ t1) : EdP b n s n0 τ M0 o (ps ++ e) tl t1 Q1 R := by
  cases R with
  | error y => exact fun M' ps' v t X ⟨e2, h2⟩ hv h1 => hE M' ps' v t X ⟨e ++ e2, by rw [h2, List.append_assoc]⟩ hv (Nat.le_trans ht h1)
  | ok r => exact fun M' ps' C ⟨e2, h2⟩ => hE M' ps' C ⟨e ++ e2, by rw [h2, List.append_assoc]⟩
theorem getD_ext {e : List Nat} {j : Nat} (h : j < ps.length) : (ps ++ e).getD j 0 = ps.getD j 0 := getD_left h
def hK (K : List KE) : Nat := 100 + 6 * (16 - K.length)
end
end
section
/-! the class reads parts: what is to be shown, by fuel; rows -/
def RcS (b : Nat → Int32) (n s n0 m : Nat) (τ : Td) (M0 : Mem) (g : Nat) : Prop :=
  (∀ (K : List KE) (i : Nat) (σ : PS) (a1 a2 a3 a4 : Nat) (c1 c2 : Int32) (M : Mem) (ps : List Nat) (H : Nat) (Q : Option Value → Mem → Prop), RpI m 0 K σ a2 a3 → CS b n s n0 τ M0 M i K.length σ.2.1 σ.1.1 ps (tlK K) → hK K ≤ H → 6 * (s + 1 - i) + 1 ≤ g → EdP b n s n0 τ M0 K.length ps (tlK K) (trS σ).1 (fun v M' => Q (some (.int v)) M') (rp b n m τ g 0 K i σ a1 a2 a3 a4 c1 c2) → E H mdX4_readSeq [.ref 14, .int (Int32.ofNat K.length)] M Q) ∧
  (∀ (K : List KE) (i : Nat) (σ : PS) (a1 a2 a3 a4 : Nat) (c1 c2 : Int32) (c : Nat) (M : Mem) (ps : List Nat) (H : Nat) (Q : Option Value → Mem → Prop), RpI m 1 K σ a2 a3 → CS b n s n0 τ M0 M i K.length σ.2.1 σ.1.1 ps (tlK K) → a1 < (trS σ).1 → c + 1 ≤ npS σ → hK K ≤ H → 6 * (s + 1 - i) ≤ g → EdP b n s n0 τ M0 K.length ps (tlK K) (trS σ).1 (fun v M' => Q (some (.int v)) M') (rp b n m τ g 1 K i σ a1 a2 a3 a4 c1 c2) → T H mdX4_readSeq 26 [(0, .ref 14), (1, .int (Int32.ofNat K.length)), (2, .int (Int32.ofNat a1)), (3, .int (Int32.ofNat c))] [] M Q) ∧
  (∀ (K : List KE) (i : Nat) (σ : PS) (a1 a2 a3 a4 : Nat) (c1 c2 : Int32) (M : Mem) (ps : List Nat) (H : Nat) (Q : Option Value → Mem → Prop), RpI m 2 K σ a2 a3 → CS b n s n0 τ M0 M i K.length σ.2.1 σ.1.1 ps (tlK K) → hK K ≤ H + 1 → 6 * (s + 1 - i) ≤ g → EdP b n s n0 τ M0 K.length ps (tlK K) (trS σ).1 (fun v M' => Q (some (.int v)) M') (rp b n m τ g 2 K i σ a1 a2 a3 a4 c1 c2) → E H mdX4_readPart [.ref 14, .int (Int32.ofNat (K.length + 1))] M Q) ∧
  (∀ (K : List KE) (i : Nat) (σ : PS) (a1 a2 a3 a4 : Nat) (c1 c2 g0 u0 gg uu : Int32) (M : Mem) (ps : List Nat) (H : Nat) (Q : Option Value → Mem → Prop), RpI m 3 K σ a2 a3 → CS b n s n0 τ M0 M i (K.length + 1) (guP σ gg uu).2.1 σ.1.1 ps (tlK K) → a1 < (trS σ).1 → 1 ≤ a4 ∧ a4 ≤ 8 → hK K ≤ H + 3 → 6 * (s + 1 - i) + 2 ≤ g → EdP b n s n0 τ M0 (K.length + 1) ps (tlK K) (trS σ).1 (fun v M' => Q (some (.int v)) M') ((rp b n m τ g 3 K i σ a1 a2 a3 a4 c1 c2).bind fun q => .ok (q.1, guP q.2.1 (g0 ||| giS q.2.1) (u0 ||| usS q.2.1), q.2.2)) → T H mdX4_readBranches 31 [(0, .ref 14), (1, .ref (ps.getD a2 0)), (2, .int (Int32.ofNat (K.length + 1))), (3, .int g0), (4, .int u0), (5, .int c1), (6, .int c2), (7, .int (Int32.ofNat a1)), (8, .int (Int32.ofNat (a4 - 1)))] [] M Q)
section
variable {b : Nat → Int32} {n s n0 m : Nat} {τ : Td} {M0 M M' : Mem} {i o j g : Nat} {γ : ClT} {σ : PS} {K : List KE} {cn : Nat → Nat} {ps : List Nat} {tl : List Int64} {f : Int32} {p t t' h B t0 t1 : Nat} {Q : Option Value → Mem → Prop} {Q1 : Int32 → Mem → Prop} {W : Nat}
theorem Z_seq {a1 a2 a3 a4 H : Nat} {c1 c2 : Int32} (hS : Sto b n s) (ih : RcS b n s n0 m τ M0 g) (hI : RpI m 0 K σ a2 a3) (hC : CS b n s n0 τ M0 M i K.length σ.2.1 σ.1.1 ps (tlK K)) (hH : hK K ≤ H) (hg : 6 * (s + 1 - i) + 1 ≤ g + 1) (hE : EdP b n s n0 τ M0 K.length ps (tlK K) (trS σ).1 (fun v M' => Q (some (.int v)) M') (rp b n m τ (g + 1) 0 K i σ a1 a2 a3 a4 c1 c2)) : E H mdX4_readSeq [.ref 14, .int (Int32.ofNat K.length)] M Q := by
  have hh : 100 ≤ hK K := Nat.le_add_right _ _
  obtain ⟨H, rfl⟩ : ∃ H', H = H' + 1 + 8 := ⟨H - 9, by omega⟩
  have F := hC.1.1
  have t1 : 1 ≤ (trS σ).1 := hC.t1
  have tm : Ts (trS σ) (mkT (trS σ) 5) := ts_mk t1
  unfold rp at hE
  rw [if_pos (show (0 : Nat) = 0 from rfl)] at hE
  obtain ⟨hP, hKl, hq, -, -, hc⟩ := hI
  have I2 : RpI m 2 K (trP1 σ (mkT (trS σ) 5).1) 0 0 := ⟨hP, hKl, fun _ => hq (by decide), fun z => absurd z (by decide), fun z => absurd z (by decide), hc⟩
  have ok2 := rp_ok (τ := τ) (m := m) hS g 2 K i (trP1 σ (mkT (trS σ) 5).1) 0 0 0 0 0 0 (by decide) hC.1.2.1.2.2 hC.1.2.2.2.2.2.2.2.2.2 I2
  refine KX4_readSeq ?_
  unfold DX4_readSeq_0
  refine ⟨ok14 F, 4, rf14_1 F, ok4 F, S_mk F hC.2.1.trp (fun M1 T1 k1 _ => ⟨_, rfl, 4, rf14_1 (k1.fix F), ?_⟩)⟩
  have C1 := hC.tree k1 T1
  rw [succ32]
  refine ih.2.2.1 K i (trP1 σ (mkT (trS σ) 5).1) 0 0 0 0 0 0 M1 ps (H + 8) _ I2 C1 (by omega) (by omega) ?_
  cases e2 : rp b n m τ g 2 K i (trP1 σ (mkT (trS σ) 5).1) 0 0 0 0 0 0 with
  | error y =>
    rw [e2] at hE
    intro M2 ps2 v t2 X2 he hv ht _
    have ht : (mkT (trS σ) 5).1.1 ≤ t2 := ht
    have hq2 := tm.2
    have hq1 := tm.1
    have qt : (mkT (trS σ) 5).2 < t2 := by omega
    have qs : (trS σ).1 ≤ t2 := by omega
    exact ⟨_, rfl, ok4 X2.1.1, V_hg X2 qt hv (fun M3 X3 _ => ⟨rfl, V_loop26 X3 (hE M3 ps2 _ t2 X3 he qt qs)⟩)⟩
  | ok r =>
    rw [e2] at hE ok2
    have np := rp_np hS hC.1.2.1.2.2 hC.1.2.2.2.2.2.2.2.2.2 I2 e2
    obtain ⟨k1', k2', k3', ⟨p1, p2, p3, p4⟩, k5'⟩ := ok2
    have hE : EdP b n s n0 τ M0 K.length ps (tlK K) (trS σ).1 (fun v M' => Q (some (.int v)) M') (rp b n m τ g 1 K r.1 (hgP r.2.1 (mkT (trS σ) 5).2 r.2.2) (mkT (trS σ) 5).2 0 0 0 0 0) := hE
    have i1 : i < r.1 := k5' (by decide)
    have tr1 : (mkT (trS σ) 5).1.1 ≤ (trS r.2.1).1 := p1.2.2.2.2 (Nat.le_trans t1 tm.1)
    have q1 : (mkT (trS σ) 5).2 < (trS r.2.1).1 := Nat.lt_of_lt_of_le tm.2 tr1
    have q2 : r.2.2 < (trS r.2.1).1 := p4 (Nat.le_trans t1 tm.1) (fun z => by omega)
    intro M2 ps2 C2 ⟨e, he⟩ _
    refine ⟨_, rfl, ok4 C2.1.1, S_hg C2.1.1 C2.2.1.trp q1 q2 (fun M3 T3 k3 _ => ⟨rfl, ?_⟩)⟩
    have C3 := C2.tree k3 T3
    have eh : (trS (hgP r.2.1 (mkT (trS σ) 5).2 r.2.2)).1 = (trS r.2.1).1 := hgT_n.1
    refine ih.2.1 K r.1 (hgP r.2.1 (mkT (trS σ) 5).2 r.2.2) (mkT (trS σ) 5).2 0 0 0 0 0 0 M3 ps2 (H + 8 + 1) Q ⟨p2, hKl, fun _ => Nat.lt_of_lt_of_le (hq (by decide)) p1.2.1, fun z => absurd z (by decide), fun _ => p3, Nat.le_succ_of_le p3⟩ C3 (by rw [eh]; exact q1) ?_ (by omega) (by omega) ?_
    · show 0 + 1 ≤ npS r.2.1; omega
    · rw [he]
      exact hE.ext (by rw [eh]; have := tm.1; omega)
theorem Z_more {a1 a2 a3 a4 H c : Nat} {c1 c2 : Int32} (hS : Sto b n s) (ih : RcS b n s n0 m τ M0 g) (hI : RpI m 1 K σ a2 a3) (hC : CS b n s n0 τ M0 M i K.length σ.2.1 σ.1.1 ps (tlK K)) (ha : a1 < (trS σ).1) (hc1 : c + 1 ≤ npS σ) (hH : hK K ≤ H) (hg : 6 * (s + 1 - i) ≤ g + 1) (hE : EdP b n s n0 τ M0 K.length ps (tlK K) (trS σ).1 (fun v M' => Q (some (.int v)) M') (rp b n m τ (g + 1) 1 K i σ a1 a2 a3 a4 c1 c2)) : T H mdX4_readSeq 26 [(0, .ref 14), (1, .int (Int32.ofNat K.length)), (2, .int (Int32.ofNat a1)), (3, .int (Int32.ofNat c))] [] M Q := by
  have hh : 100 ≤ hK K := Nat.le_add_right _ _
  obtain ⟨H, rfl⟩ : ∃ H', H = H' + 1 + 8 := ⟨H - 9, by omega⟩
  have F := hC.1.1
  have t1 : 1 ≤ (trS σ).1 := hC.t1
  have L := hC.len
  unfold rp at hE
  rw [if_neg (show ¬ (1 : Nat) = 0 by decide), if_pos (show (1 : Nat) = 1 from rfl)] at hE
  obtain ⟨hP, hKl, hq, -, h1, hc⟩ := hI
  have np40 : npS σ ≤ 40 := hP.1
  refine VX4_readSeq_26 ?_
  unfold DX4_readSeq_26 DX4_readSeq_65
  refine ⟨fun z => absurd ((le32 (a := 40) (by decide) (by omega)).mp z) (by omega), fun _ => ⟨ok14 F, 15, rf14_0 F, ok15 F, Z_accept hS hC (by decide) (fun k => ?_) (fun k _ => ⟨_, rfl, fun _ => ?_, fun z => absurd rfl z⟩)⟩⟩
  · rw [if_pos k] at hE
    cases ea : adv' b n i with
    | error y =>
      rw [ea] at hE
      intro M1 X1 _
      have X1 : CX n0 τ M0 (s + 70) 0 M1 y.1 y.2 ps (tlK K) (trS σ).1 := X1
      exact ⟨_, rfl, fun z => absurd z (by decide), fun _ => ⟨4, rf14_1 X1.1.1, V_part X1 (fun _ => ⟨_, rfl, ok4 X1.1.1, V_hg (c := 0) X1 ha (by omega) (fun M3 X3 _ => ⟨rfl, V_loop26 X3 (EdP.er hE X3 (by decide) ha (Nat.le_refl _))⟩)⟩)⟩⟩
    | ok i1 =>
      rw [ea] at hE
      obtain ⟨rfl, hk1⟩ := adv_is ea
      have hE : EdP b n s n0 τ M0 K.length ps (tlK K) (trS σ).1 (fun v M' => Q (some (.int v)) M') ((rp b n m τ g 2 K (i + 1) σ 0 0 0 0 0 0).bind fun r => rp b n m τ g 1 K r.1 (hgP r.2.1 a1 r.2.2) a1 0 0 0 0 0) := hE
      intro M1 C1 _
      have F1 := C1.1.1
      refine ⟨_, rfl, fun z => absurd z (by decide), fun _ => ⟨4, rf14_1 F1, ?_⟩⟩
      rw [succ32, succ32]
      have I2 : RpI m 2 K σ 0 0 := ⟨hP, hKl, fun _ => hq (by decide), fun z => absurd z (by decide), fun z => absurd z (by decide), hc⟩
      have ok2 := rp_ok (τ := τ) (m := m) hS g 2 K (i + 1) σ 0 0 0 0 0 0 (by decide) C1.1.2.1.2.2 hk1 I2
      refine ih.2.2.1 K (i + 1) σ 0 0 0 0 0 0 M1 ps (H + 8) _ I2 C1 (by omega) (by omega) ?_
      cases e2 : rp b n m τ g 2 K (i + 1) σ 0 0 0 0 0 0 with
      | error y =>
        rw [e2] at hE
        intro M2 ps2 v t2 X2 he hv ht _
        exact ⟨_, rfl, ok4 X2.1.1, V_hg X2 (by omega) hv (fun M3 X3 _ => ⟨rfl, V_loop26 X3 (hE M3 ps2 _ t2 X3 he (by omega) ht)⟩)⟩
      | ok r =>
        rw [e2] at hE ok2
        have np := rp_np hS C1.1.2.1.2.2 hk1 I2 e2
        obtain ⟨k1', k2', k3', ⟨p1, p2, p3, p4⟩, k5'⟩ := ok2
        have hE : EdP b n s n0 τ M0 K.length ps (tlK K) (trS σ).1 (fun v M' => Q (some (.int v)) M') (rp b n m τ g 1 K r.1 (hgP r.2.1 a1 r.2.2) a1 0 0 0 0 0) := hE
        have i1 : i + 1 < r.1 := k5' (by decide)
        have tr1 : (trS σ).1 ≤ (trS r.2.1).1 := p1.2.2.2.2 t1
        have q1 : a1 < (trS r.2.1).1 := Nat.lt_of_lt_of_le ha tr1
        have q2 : r.2.2 < (trS r.2.1).1 := p4 t1 (fun z => by omega)
        intro M2 ps2 C2 ⟨e, he⟩ _
        refine ⟨_, rfl, ok4 C2.1.1, S_hg C2.1.1 C2.2.1.trp q1 q2 (fun M3 T3 k3 _ => ⟨rfl, ?_⟩)⟩
        have C3 := C2.tree k3 T3
        have eh : (trS (hgP r.2.1 a1 r.2.2)).1 = (trS r.2.1).1 := hgT_n.1
        refine ih.2.1 K r.1 (hgP r.2.1 a1 r.2.2) a1 0 0 0 0 0 (c + 1) M3 ps2 (H + 8 + 1) Q ⟨p2, hKl, fun _ => Nat.lt_of_lt_of_le (hq (by decide)) p1.2.1, fun z => absurd z (by decide), fun _ => p3, Nat.le_succ_of_le p3⟩ C3 (by rw [eh]; exact q1) ?_ (by omega) (by omega) ?_
        · show c + 1 + 1 ≤ npS r.2.1; omega
        · rw [he]
          exact hE.ext (by rw [eh]; exact tr1)
  · rw [if_neg k] at hE
    exact EdP.ok' hE hC
theorem CS.push {c : Int64} (hC : CS b n s n0 τ M0 M i o γ cn ps tl) (hl : tl.length < 16) (e : M' = wI (wAJ M 20 tl.length c) 14 3 (Int32.ofNat (tl.length + 1))) : CS b n s n0 τ M0 M' i o γ cn ps (c :: tl) := by
  refine ⟨?_, hC.2.1.push hC.1.1 hl e, hC.2.2⟩
  rw [e]
  exact hC.1.fr ((hC.1.1.aj (by decide)).i) w14 rfl rfl rfl (up2_row (f := mAJ M) (a := 20) (b := 18) (k := tl.length) (v := c) (by decide))
theorem CS.pop {c : Int64} (hC : CS b n s n0 τ M0 M i o γ cn ps (c :: tl)) (e : M' = wI M 14 3 (mI M 14 3 - 1)) : CS b n s n0 τ M0 M' i o γ cn ps tl := by
  refine ⟨?_, hC.2.1.pop hC.1.1 e, hC.2.2⟩
  rw [e]
  exact hC.1.fr hC.1.1.i w14 rfl rfl rfl rfl
/-- a row with a trap around it -/
theorem Z_trapped {H : Nat} {c : Int64} {R : Except (Int32 × Nat) (Nat × PS × Nat)} {d : Int32} (hC : CS b n s n0 τ M0 M i o γ cn ps tl) (hl : tl.length < 16) (hT : ∀ (M' : Mem) (Q' : Option Value → Mem → Prop), CS b n s n0 τ M0 M' i o γ cn ps (c :: tl) → EdP b n s n0 τ M0 o ps (c :: tl) t0 (fun v M' => Q' (some (.int v)) M') R → E H mdX4_readSeq [.ref 14, .int d] M' Q') (hE : EdP b n s n0 τ M0 o ps tl t0 (fun v M' => Q (some (.int v)) M') R) : E (H + 1) mdX4_readTrapped [.ref 14, .long c, .int d] M Q := by
  have F := hC.1.1
  have e3 := hC.2.1.rd.1.1
  refine KX4_readTrapped ?_
  unfold DX4_readTrapped_0
  refine ⟨ok14 F, fun _ => ⟨20, rf14_2 F, ok20 F, ?_, ?_⟩, fun z => absurd (by rw [e3]; exact (ltn32 (b := 16) (by omega) (by decide)).mpr hl) z⟩
  · rw [e3, ln20 F]
    exact vp_of hl (by decide)
  · rw [e3, lt32 (by omega)]
    intro M4 e4 M5 e5
    have e34 : mI M4 14 3 = Int32.ofNat tl.length := by rw [e4]; exact e3
    rw [e34, succ32, e4] at e5
    refine hT M5 _ (hC.push hl e5) ?_
    cases R with
    | error y => exact fun M6 ps6 v t6 X6 he hv ht _ => ⟨_, rfl, fun M8 e8 => hE M8 ps6 v t6 (X6.pop e8) he hv ht⟩
    | ok r => exact fun M6 ps6 C6 he _ => ⟨_, rfl, fun M8 e8 => hE M8 ps6 (C6.pop e8) he⟩
end
end
section
/-! the class reads parts with rows -/
section
variable {b : Nat → Int32} {n s n0 m : Nat} {τ : Td} {M0 M M' : Mem} {i o j g aw lit : Nat} {γ : ClT} {σ : PS} {K : List KE} {cn : Nat → Nat} {ps ps' : List Nat} {tl : List Int64} {f d : Int32} {p t t' h B t0 t1 v H : Nat} {Q : Option Value → Mem → Prop} {Q1 : Int32 → Mem → Prop} {R0 : Except (Int32 × Nat) (Nat × PS × Nat)} {W : Nat}
theorem EdP.vend {e : Int32 × Nat} (hE : EdP b n s n0 τ M0 o ps tl t0 (fun v M' => Q (some (.int v)) M') (.error e)) (he : ∃ x, ps' = ps ++ x) (hB : B ≤ 10) (ht : t0 ≤ t) : VEnd n0 τ M0 (s + 70) B e.1 e.2 ps' tl t Q := fun M' v t' X q1 q2 => hE M' ps' v t' (X.mono (Nat.le_refl _) hB) he q2 (Nat.le_trans ht q1)
theorem EdP.oke {r : Nat × PS × Nat} (hE : EdP b n s n0 τ M0 o ps tl t0 Q1 (.ok r)) (he : ∃ x, ps' = ps ++ x) (C : CS b n s n0 τ M0 M' r.1 o r.2.1.2.1 r.2.1.1.1 ps' tl) : Q1 (Int32.ofNat r.2.2) M' := hE M' ps' C he
theorem sm_lt {e : List Nat} (hj : j < ps.length) : j < (ps ++ e).length := by rw [List.length_append]; omega
/-- loop: behind its row -/
theorem Z_l23 (hS : Sto b n s) (hC : CS b n s n0 τ M0 M i o σ.2.1 σ.1.1 ps' tl) (he : ∃ x, ps' = ps ++ x) (hv : v < (trS σ).1) (ht : t0 ≤ (trS σ).1) (hE : EdP b n s n0 τ M0 o ps tl t0 (fun v M' => Q (some (.int v)) M') ((ex b n i 43).bind fun i2 => .ok (i2, trP1 σ (wrT (trS σ) 6 v).1, (wrT (trS σ) 6 v).2))) : DX4_readLoop_23 (h + 3) 14 (Int32.ofNat v) M Q := by
  have F := hC.1.1
  unfold DX4_readLoop_23
  refine ⟨ok14 F, 15, rf14_0 F, ok15 F, Z_expect hS hC (by decide) ?_⟩
  cases e : ex b n i 43 with
  | error y =>
    rw [e] at hE
    intro M1 X1 _
    have F1 := X1.1.1
    have X1 : CX n0 τ M0 (s + 70) 0 M1 y.1 y.2 ps' tl (trS σ).1 := X1
    exact ⟨rfl, 4, rf14_1 F1, ok4 F1, V_op X1 (fun Θ hT ht h0 => ⟨wrT Θ 6 v, ts_wr h0, fun Q' H' => S_wr F1 hT (by omega) H'⟩) (fun M' v t' X' q1 q2 _ => ⟨_, rfl, hE.vend he (by decide) ht M' v t' X' q1 q2⟩)⟩
  | ok i2 =>
    rw [e] at hE
    intro M1 C1 _
    have F1 := C1.1.1
    refine ⟨rfl, 4, rf14_1 F1, ok4 F1, S_wr F1 C1.2.1.trp hv (fun M2 T2 k2 _ => ⟨_, rfl, ?_⟩)⟩
    exact hE.oke he (C1.tree k2 T2)
theorem Z_loop (hS : Sto b n s) (hC : CS b n s n0 τ M0 M i o γ cn ps tl) (hj : j < ps.length) (hH : 3 ≤ H) (hT : ∀ Q' : Option Value → Mem → Prop, EdP b n s n0 τ M0 o ps tl t0 (fun v M' => Q' (some (.int v)) M') R0 → E H mdX4_readSeq [.ref 14, .int d] M Q') (hR : ∀ q, R0 = .ok q → t0 ≤ (trS q.2.1).1 ∧ q.2.2 < (trS q.2.1).1) (hE : EdP b n s n0 τ M0 o ps tl t0 (fun v M' => Q (some (.int v)) M') (R0.bind fun q => tlM b n m τ 42 j aw lit q.2.2 q.1 o q.2.1)) : E (H + 1) mdX4_readLoop [.ref 14, .ref (ps.getD j 0), .int d] M Q := by
  obtain ⟨H, rfl⟩ : ∃ H', H = H' + 3 := ⟨H - 3, by omega⟩
  refine KX4_readLoop ?_
  unfold DX4_readLoop_0
  refine ⟨ok14 hC.1.1, hT _ ?_⟩
  cases e0 : R0 with
  | error y =>
    rw [e0] at hE
    intro M2 ps2 v t2 X2 he hv ht _
    obtain ⟨x, hx⟩ := id he
    have ej : ps.getD j 0 = ps2.getD j 0 := by rw [hx]; exact (getD_ext hj).symm
    rw [ej]
    exact ⟨_, rfl, V_lp X2 (by rw [hx]; exact sm_lt hj) hv (EdP.vend hE he (Nat.le_refl _) ht)⟩
  | ok q =>
    rw [e0] at hE
    obtain ⟨q1, q2⟩ := hR q e0
    have hE : EdP b n s n0 τ M0 o ps tl t0 (fun v M' => Q (some (.int v)) M') ((ex b n q.1 43).bind fun i2 => .ok (i2, trP1 (if (trS q.2.1).2.2 13 q.2.2 &&& 1 = 0 then q.2.1 else paP q.2.1 j 2 7) (wrT (trS q.2.1) 6 q.2.2).1, (wrT (trS q.2.1) 6 q.2.2).2)) := hE
    intro M2 ps2 C2 he _
    obtain ⟨x, hx⟩ := id he
    have ej : ps.getD j 0 = ps2.getD j 0 := by rw [hx]; exact (getD_ext hj).symm
    have hj2 : j < ps2.length := by rw [hx]; exact sm_lt hj
    have F2 := C2.1.1
    rw [ej]
    refine ⟨_, rfl, 4, rf14_1 F2, ok4 F2, S_ceo F2 C2.2.1.trp q2 (fun _ => ⟨_, rfl, fun z => ?_, fun z => ⟨(C2.2.1.part hj2).1, fun M9 e9 => ?_⟩⟩)⟩
    · by_cases y : (trS q.2.1).2.2 13 q.2.2 &&& 1 = 0
      · rw [if_pos y] at hE
        exact Z_l23 hS C2 he q2 q1 hE
      · exact absurd z (by rw [if_neg (show ¬ q.2.1.2.1.2.1.2.2 13 q.2.2 &&& 1 = 0 from y)]; decide)
    · by_cases y : (trS q.2.1).2.2 13 q.2.2 &&& 1 = 0
      · exact absurd (by rw [if_pos (show q.2.1.2.1.2.1.2.2 13 q.2.2 &&& 1 = 0 from y)]) z
      · rw [if_neg y] at hE
        exact Z_l23 (σ := paP q.2.1 j 2 7) hS (C2.pt hj2 e9) he q2 q1 hE
/-- a choice: behind its rows -/
theorem Z_c43 {x y : Nat} (hS : Sto b n s) (hC : CS b n s n0 τ M0 M i o σ.2.1 σ.1.1 ps' tl) (he : ∃ x, ps' = ps ++ x) (hx : x < (trS σ).1) (hy : y < (trS σ).1) (ht : t0 ≤ (trS σ).1) (hE : EdP b n s n0 τ M0 o ps tl t0 (fun v M' => Q (some (.int v)) M') (chM b n lit x y i σ)) : DX4_readChoice_43 (h + 3) 14 (Int32.ofNat lit) (Int32.ofNat x) (Int32.ofNat y) M Q := by
  have F := hC.1.1
  unfold chM at hE
  unfold DX4_readChoice_43
  refine ⟨ok14 F, 15, rf14_0 F, ok15 F, Z_expect hS hC (by decide) ?_⟩
  cases e : ex b n i 43 with
  | error z =>
    rw [e] at hE
    intro M1 X1 _
    have F1 := X1.1.1
    have X1 : CX n0 τ M0 (s + 70) 0 M1 z.1 z.2 ps' tl (trS σ).1 := X1
    exact ⟨rfl, 4, rf14_1 F1, ok4 F1, V_op X1 (fun Θ hT ht h0 => ⟨chT Θ (Int32.ofNat lit) x y, ts_ch h0, fun Q' H' => S_ch F1 hT (by omega) (by omega) H'⟩) (fun M' v t' X' q1 q2 _ => ⟨_, rfl, hE.vend he (by decide) ht M' v t' X' q1 q2⟩)⟩
  | ok i2 =>
    rw [e] at hE
    intro M1 C1 _
    have F1 := C1.1.1
    refine ⟨rfl, 4, rf14_1 F1, ok4 F1, S_ch F1 C1.2.1.trp hx hy (fun M2 T2 k2 _ => ⟨_, rfl, ?_⟩)⟩
    exact hE.oke he (C1.tree k2 T2)
theorem Z_choice {R1 : Nat → Except (Int32 × Nat) (Nat × PS × Nat)} {R2 : Nat × PS × Nat → Nat → Except (Int32 × Nat) (Nat × PS × Nat)} (hS : Sto b n s) (hC : CS b n s n0 τ M0 M i o γ cn ps tl) (hH : 6 ≤ H) (ht0 : t0 ≤ γ.2.1.1)
    (hT : ∀ (i2 : Nat) (M' : Mem) (Q' : Option Value → Mem → Prop), ex b n i 45 = .ok i2 → CS b n s n0 τ M0 M' i2 o γ cn ps tl → EdP b n s n0 τ M0 o ps tl γ.2.1.1 (fun v M' => Q' (some (.int v)) M') (R1 i2) → E H mdX4_readSeq [.ref 14, .int d] M' Q') (hR : ∀ i2 q, ex b n i 45 = .ok i2 → R1 i2 = .ok q → γ.2.1.1 ≤ (trS q.2.1).1 ∧ q.2.2 < (trS q.2.1).1)
    (hT2 : ∀ (i2 : Nat) (q : Nat × PS × Nat) (i3 : Nat) (ps' : List Nat) (M' : Mem) (Q' : Option Value → Mem → Prop), ex b n i 45 = .ok i2 → R1 i2 = .ok q → tK b n q.1 = 46 → adv' b n q.1 = .ok i3 → CS b n s n0 τ M0 M' i3 o q.2.1.2.1 q.2.1.1.1 ps' tl → EdP b n s n0 τ M0 o ps' tl (trS q.2.1).1 (fun v M' => Q' (some (.int v)) M') (R2 q i3) → E H mdX4_readSeq [.ref 14, .int d] M' Q') (hR2 : ∀ i2 q i3 u, ex b n i 45 = .ok i2 → R1 i2 = .ok q → tK b n q.1 = 46 → adv' b n q.1 = .ok i3 → R2 q i3 = .ok u → (trS q.2.1).1 ≤ (trS u.2.1).1 ∧ u.2.2 < (trS u.2.1).1)
    (hE : EdP b n s n0 τ M0 o ps tl t0 (fun v M' => Q (some (.int v)) M') ((ex b n i 45).bind fun i2 => (R1 i2).bind fun q => if tK b n q.1 = 46 then (adv' b n q.1).bind fun i3 => (R2 q i3).bind fun u => chM b n lit q.2.2 u.2.2 u.1 u.2.1 else chM b n lit q.2.2 (mkT (trS q.2.1) 0).2 q.1 (trP1 q.2.1 (mkT (trS q.2.1) 0).1))) : E (H + 1) mdX4_readChoice [.ref 14, .int (Int32.ofNat lit), .int d] M Q := by
  obtain ⟨H, rfl⟩ : ∃ H', H = H' + 6 := ⟨H - 6, by omega⟩
  have F := hC.1.1
  refine KX4_readChoice ?_
  unfold DX4_readChoice_0
  refine ⟨ok14 F, 15, rf14_0 F, ok15 F, Z_expect hS hC (by decide) ?_⟩
  cases e45 : ex b n i 45 with
  | error y =>
    rw [e45] at hE
    intro M1 X1 _
    refine ⟨rfl, V_seq X1 (fun M2 v t2 X2 q1 q2 _ => ⟨_, rfl, 15, rf14_0 X2.1.1, ok15 X2.1.1, V_accept X2 (by decide) (fun _ => ⟨_, rfl, fun _ => V_cmk X2 q2 (EdP.vend hE ⟨[], (List.append_nil _).symm⟩ (by decide) (by omega)), fun z => absurd rfl z⟩)⟩)⟩
  | ok i2 =>
    rw [e45] at hE
    have hE : EdP b n s n0 τ M0 o ps tl t0 (fun v M' => Q (some (.int v)) M') ((R1 i2).bind fun q => if tK b n q.1 = 46 then (adv' b n q.1).bind fun i3 => (R2 q i3).bind fun u => chM b n lit q.2.2 u.2.2 u.1 u.2.1 else chM b n lit q.2.2 (mkT (trS q.2.1) 0).2 q.1 (trP1 q.2.1 (mkT (trS q.2.1) 0).1)) := hE
    intro M1 C1 _
    refine ⟨rfl, hT i2 M1 _ e45 C1 ?_⟩
    cases e1 : R1 i2 with
    | error y =>
      rw [e1] at hE
      intro M2 ps2 v t2 X2 he hv ht _
      exact ⟨_, rfl, 15, rf14_0 X2.1.1, ok15 X2.1.1, V_accept X2 (by decide) (fun _ => ⟨_, rfl, fun _ => V_cmk X2 hv (EdP.vend hE he (Nat.le_refl _) (by omega)), fun z => absurd rfl z⟩)⟩
    | ok q =>
      rw [e1] at hE
      obtain ⟨q1, q2⟩ := hR i2 q e45 e1
      have hE : EdP b n s n0 τ M0 o ps tl t0 (fun v M' => Q (some (.int v)) M') (if tK b n q.1 = 46 then (adv' b n q.1).bind fun i3 => (R2 q i3).bind fun u => chM b n lit q.2.2 u.2.2 u.1 u.2.1 else chM b n lit q.2.2 (mkT (trS q.2.1) 0).2 q.1 (trP1 q.2.1 (mkT (trS q.2.1) 0).1)) := hE
      intro M2 ps2 C2 he _
      have F2 := C2.1.1
      have t21 : 1 ≤ (trS q.2.1).1 := C2.t1
      refine ⟨_, rfl, 15, rf14_0 F2, ok15 F2, Z_accept hS C2 (by decide) (fun k => ?_) (fun k _ => ⟨_, rfl, fun _ => ?_, fun z => absurd rfl z⟩)⟩
      · rw [if_pos k] at hE
        cases ea : adv' b n q.1 with
        | error y =>
          rw [ea] at hE
          intro M3 X3 _
          have X3 : CX n0 τ M0 (s + 70) 0 M3 y.1 y.2 ps2 tl (trS q.2.1).1 := X3
          exact ⟨_, rfl, fun z => absurd z (by decide), fun _ => V_seq X3 (fun M4 v t4 X4 w1 w2 _ => ⟨_, rfl, V_c43 X4 (by omega) w2 (EdP.vend hE he (by decide) (by omega))⟩)⟩
        | ok i3 =>
          rw [ea] at hE
          have hE : EdP b n s n0 τ M0 o ps tl t0 (fun v M' => Q (some (.int v)) M') ((R2 q i3).bind fun u => chM b n lit q.2.2 u.2.2 u.1 u.2.1) := hE
          intro M3 C3 _
          refine ⟨_, rfl, fun z => absurd z (by decide), fun _ => hT2 i2 q i3 ps2 M3 _ e45 e1 k ea C3 ?_⟩
          cases e2 : R2 q i3 with
          | error y =>
            rw [e2] at hE
            intro M4 ps4 v t4 X4 ⟨x4, h4⟩ hv ht _
            obtain ⟨x2, h2⟩ := he
            exact ⟨_, rfl, V_c43 X4 (by omega) hv (EdP.vend hE ⟨x2 ++ x4, by rw [h4, h2, List.append_assoc]⟩ (Nat.le_refl _) (by omega))⟩
          | ok u =>
            rw [e2] at hE
            obtain ⟨u1, u2⟩ := hR2 i2 q i3 u e45 e1 k ea e2
            intro M4 ps4 C4 ⟨x4, h4⟩ _
            obtain ⟨x2, h2⟩ := he
            exact ⟨_, rfl, Z_c43 hS C4 ⟨x2 ++ x4, by rw [h4, h2, List.append_assoc]⟩ (by omega) u2 (by omega) hE⟩
      · rw [if_neg k] at hE
        have tm := ts_mk (Θ := trS q.2.1) (k := 0) t21
        have a1 := tm.1
        have a2 := tm.2
        refine ⟨4, rf14_1 F2, ok4 F2, S_mk F2 C2.2.1.trp (fun M3 T3 k3 _ => ⟨_, rfl, ?_⟩)⟩
        refine Z_c43 (σ := trP1 q.2.1 (mkT (trS q.2.1) 0).1) hS (C2.tree k3 T3) he ?_ ?_ ?_ hE
        · show q.2.2 < (mkT (trS q.2.1) 0).1.1; omega
        · exact a2
        · show t0 ≤ (mkT (trS q.2.1) 0).1.1; omega
end
end
section
/-! the class reads parts with rows: abort, weak, suspend, every, trap; await -/
section
variable {b : Nat → Int32} {n s n0 m : Nat} {τ : Td} {M0 M M' : Mem} {i o j g aw lit : Nat} {γ : ClT} {σ : PS} {K : List KE} {cn : Nat → Nat} {ps ps' : List Nat} {tl : List Int64} {f d : Int32} {p t t' h B t0 t1 v H : Nat} {Q : Option Value → Mem → Prop} {Q1 : Int32 → Mem → Prop} {R0 : Except (Int32 × Nat) (Nat × PS × Nat)} {W : Nat}
theorem atM_cl {r : Nat × PS × Nat × Bool} (h : atM b n m τ j i o σ = .ok r) : r.2.1.1.1 = σ.1.1 ∧ trS r.2.1 = trS σ := by
  unfold atM at h
  obtain ⟨x, -, h⟩ := bind_ok h
  obtain ⟨y, h2, h⟩ := bind_ok h
  cases h
  unfold coM at h2
  obtain ⟨z, -, h2⟩ := bind_ok h2
  cases h2
  cases x.2 <;> exact ⟨rfl, rfl⟩
theorem coM_cl {r : Nat × PS × Nat} (h : coM b n m τ j i o σ = .ok r) : r.2.1.1.1 = σ.1.1 ∧ trS r.2.1 = trS σ := by
  unfold coM at h
  obtain ⟨z, -, h⟩ := bind_ok h
  cases h
  exact ⟨rfl, rfl⟩
/-- abort: its tree, behind 'end' -/
def abF (Θ : TrT) (x : Nat) (l : Int32) (im : Bool) : TrT × Nat := if im = true then chT (mkT (abT Θ x l).1 0).1 l (mkT (abT Θ x l).1 0).2 (abT Θ x l).2 else abT Θ x l
theorem ab_if {Θ : TrT} {x i : Nat} {l : Int32} {im : Bool} {σ : PS} : (if im = true then (.ok (i, trP1 σ (chT (mkT (abT Θ x l).1 0).1 l (mkT (abT Θ x l).1 0).2 (abT Θ x l).2).1, (chT (mkT (abT Θ x l).1 0).1 l (mkT (abT Θ x l).1 0).2 (abT Θ x l).2).2) : Except (Int32 × Nat) (Nat × PS × Nat)) else .ok (i, trP1 σ (abT Θ x l).1, (abT Θ x l).2)) = .ok (i, trP1 σ (abF Θ x l im).1, (abF Θ x l im).2) := by
  unfold abF
  by_cases z : im = true
  · rw [if_pos z, if_pos z]
  · rw [if_neg z, if_neg z]
theorem Z_ab2 {l : Int32} {im : Bool} (hC : CS b n s n0 τ M0 M i o γ cn ps tl) (hv : v < γ.2.1.1) (H : ∀ M', CS b n s n0 τ M0 M' i o (γ.1, (abF γ.2.1 v l im).1, γ.2.2) cn ps tl → Q (some (.int (Int32.ofNat (abF γ.2.1 v l im).2))) M') : TAb2 (h + 6) (Int32.ofNat v) l (b32 im) Q M := by
  have F := hC.1.1
  have t1 := hC.t1
  have ta := ts_ab (c := v) (l := l) t1
  refine ⟨4, rf14_1 F, ok4 F, S_ab F hC.2.1.trp hv (fun M1 T1 k1 _ => ⟨_, rfl, fun z => ?_, fun z => ?_⟩)⟩
  · cases im with
    | true => exact absurd z (by decide)
    | false => exact H M1 (hC.tree k1 T1)
  · cases im with
    | false => exact absurd rfl z
    | true =>
      have C1 := hC.tree k1 T1
      have F1 := C1.1.1
      refine ⟨4, rf14_1 F1, 4, rf14_1 F1, ok4 F1, S_mk F1 T1 (fun M2 T2 k2 _ => ⟨_, rfl, ok4 (k2.fix F1), ?_⟩)⟩
      have C2 := C1.tree k2 T2
      have tm := ts_mk (Θ := (abT γ.2.1 v l).1) (k := 0) (Nat.le_trans t1 ta.1)
      refine S_ch C2.1.1 T2 tm.2 (Nat.lt_of_lt_of_le ta.2 tm.1) (fun M3 T3 k3 _ => ⟨_, rfl, ?_⟩)
      exact H M3 (C2.tree k3 T3)
theorem Z_abort (hB : By b) (hS : Sto b n s) (hC : CS b n s n0 τ M0 M i o γ cn ps tl) (ho : o ≤ 15) (hH : 60 ≤ H) (hT : ∀ Q' : Option Value → Mem → Prop, EdP b n s n0 τ M0 o ps tl t0 (fun v M' => Q' (some (.int v)) M') R0 → E H mdX4_readTrapped [.ref 14, .long 0, .int d] M Q') (hR : ∀ q, R0 = .ok q → t0 ≤ (trS q.2.1).1 ∧ q.2.2 < (trS q.2.1).1) (hE : EdP b n s n0 τ M0 o ps tl t0 (fun v M' => Q (some (.int v)) M') (R0.bind fun q => tlM b n m τ 49 j aw lit q.2.2 q.1 o q.2.1)) : E (H + 1) mdX4_readAbort [.ref 14, .int d] M Q := by
  obtain ⟨H, rfl⟩ : ∃ H', H = H' + 54 + 6 := ⟨H - 60, by omega⟩
  refine KX4_readAbort ?_
  unfold DX4_readAbort_0
  refine ⟨ok14 hC.1.1, hT _ ?_⟩
  cases e0 : R0 with
  | error y =>
    rw [e0] at hE
    intro M2 ps2 v t2 X2 he hv ht _
    exact ⟨_, rfl, V_ab0 X2 hv (EdP.vend hE he (Nat.le_refl _) ht)⟩
  | ok q =>
    rw [e0] at hE
    obtain ⟨q1, q2⟩ := hR q e0
    have hE : EdP b n s n0 τ M0 o ps tl t0 (fun v M' => Q (some (.int v)) M') ((ex b n q.1 51).bind fun i2 => (atM b n m τ j i2 o q.2.1).bind fun r => (ex b n r.1 43).bind fun i3 => if r.2.2.2 = true then .ok (i3, trP1 r.2.1 (chT (mkT (abT (trS r.2.1) q.2.2 (Int32.ofNat r.2.2.1)).1 0).1 (Int32.ofNat r.2.2.1) (mkT (abT (trS r.2.1) q.2.2 (Int32.ofNat r.2.2.1)).1 0).2 (abT (trS r.2.1) q.2.2 (Int32.ofNat r.2.2.1)).2).1, (chT (mkT (abT (trS r.2.1) q.2.2 (Int32.ofNat r.2.2.1)).1 0).1 (Int32.ofNat r.2.2.1) (mkT (abT (trS r.2.1) q.2.2 (Int32.ofNat r.2.2.1)).1 0).2 (abT (trS r.2.1) q.2.2 (Int32.ofNat r.2.2.1)).2).2) else .ok (i3, trP1 r.2.1 (abT (trS r.2.1) q.2.2 (Int32.ofNat r.2.2.1)).1, (abT (trS r.2.1) q.2.2 (Int32.ofNat r.2.2.1)).2)) := hE
    intro M2 ps2 C2 he _
    have F2 := C2.1.1
    refine ⟨_, rfl, 15, rf14_0 F2, ok15 F2, Z_expect hS C2 (by decide) ?_⟩
    cases e1 : ex b n q.1 51 with
    | error y =>
      rw [e1] at hE
      intro M3 X3 _
      have X3 : CX n0 τ M0 (s + 70) 0 M3 y.1 y.2 ps2 tl (trS q.2.1).1 := X3
      exact ⟨rfl, V_abx X3 q2 (EdP.vend hE he (by decide) q1)⟩
    | ok i2 =>
      rw [e1] at hE
      intro M3 C3 _
      have F3 := C3.1.1
      refine ⟨rfl, 15, rf14_0 F3, ok15 F3, Z_atM (j := j) (m := m) (P := fun r10 r12 M11 => TAb1 (H + 54 + 6) (Int32.ofNat q.2.2) r12 r10 Q M11) hB hS C3 ho ?_⟩
      cases e2 : atM b n m τ j i2 o q.2.1 with
      | error y =>
        have hE : EdP b n s n0 τ M0 o ps tl t0 (fun v M' => Q (some (.int v)) M') ((atM b n m τ j i2 o q.2.1).bind _) := hE
        rw [e2] at hE
        exact fun M4 im v X4 => V_ab1 X4 q2 (EdP.vend hE he (by decide) q1)
      | ok r =>
        have hE : EdP b n s n0 τ M0 o ps tl t0 (fun v M' => Q (some (.int v)) M') ((atM b n m τ j i2 o q.2.1).bind _) := hE
        rw [e2] at hE
        obtain ⟨c1, c2⟩ := atM_cl e2
        have hE : EdP b n s n0 τ M0 o ps tl t0 (fun v M' => Q (some (.int v)) M') ((ex b n r.1 43).bind _) := hE
        intro M4 C4
        have F4 := C4.1.1
        refine ⟨15, rf14_0 F4, ok15 F4, Z_expect hS C4 (by decide) ?_⟩
        cases e3 : ex b n r.1 43 with
        | error y =>
          rw [e3] at hE
          intro M5 X5 _
          have X5 : CX n0 τ M0 (s + 70) 0 M5 y.1 y.2 ps2 tl (trS r.2.1).1 := X5
          rw [c2] at X5
          exact ⟨rfl, V_ab2 X5 q2 (EdP.vend hE he (by decide) q1)⟩
        | ok i3 =>
          rw [e3] at hE
          intro M5 C5 _
          refine ⟨rfl, Z_ab2 C5 (by show q.2.2 < (trS r.2.1).1; rw [c2]; exact q2) (fun M6 C6 => ?_)⟩
          rw [← c1] at C6
          have hE : EdP b n s n0 τ M0 o ps tl t0 (fun v M' => Q (some (.int v)) M') (if r.2.2.2 = true then .ok (i3, trP1 r.2.1 (chT (mkT (abT (trS r.2.1) q.2.2 (Int32.ofNat r.2.2.1)).1 0).1 (Int32.ofNat r.2.2.1) (mkT (abT (trS r.2.1) q.2.2 (Int32.ofNat r.2.2.1)).1 0).2 (abT (trS r.2.1) q.2.2 (Int32.ofNat r.2.2.1)).2).1, (chT (mkT (abT (trS r.2.1) q.2.2 (Int32.ofNat r.2.2.1)).1 0).1 (Int32.ofNat r.2.2.1) (mkT (abT (trS r.2.1) q.2.2 (Int32.ofNat r.2.2.1)).1 0).2 (abT (trS r.2.1) q.2.2 (Int32.ofNat r.2.2.1)).2).2) else .ok (i3, trP1 r.2.1 (abT (trS r.2.1) q.2.2 (Int32.ofNat r.2.2.1)).1, (abT (trS r.2.1) q.2.2 (Int32.ofNat r.2.2.1)).2)) := hE
          rw [ab_if] at hE
          exact hE.oke he C6
theorem Z_weak {R1 : Nat → Except (Int32 × Nat) (Nat × PS × Nat)} (hB : By b) (hS : Sto b n s) (hC : CS b n s n0 τ M0 M i o γ cn ps tl) (ho : o ≤ 15) (hH : 60 ≤ H) (ht0 : t0 ≤ γ.2.1.1) (hT : ∀ (i2 : Nat) (M' : Mem) (Q' : Option Value → Mem → Prop), ex b n i 49 = .ok i2 → CS b n s n0 τ M0 M' i2 o γ cn ps tl → EdP b n s n0 τ M0 o ps tl t0 (fun v M' => Q' (some (.int v)) M') (R1 i2) → E H mdX4_readTrapped [.ref 14, .long 0, .int d] M' Q') (hR : ∀ i2 q, ex b n i 49 = .ok i2 → R1 i2 = .ok q → t0 ≤ (trS q.2.1).1 ∧ q.2.2 < (trS q.2.1).1) (hE : EdP b n s n0 τ M0 o ps tl t0 (fun v M' => Q (some (.int v)) M') ((ex b n i 49).bind fun i2 => (R1 i2).bind fun q => tlM b n m τ 50 j aw lit q.2.2 q.1 o q.2.1)) : E (H + 1) mdX4_readWeak [.ref 14, .int d] M Q := by
  obtain ⟨H, rfl⟩ : ∃ H', H = H' + 53 + 7 := ⟨H - 60, by omega⟩
  have F := hC.1.1
  refine KX4_readWeak ?_
  unfold DX4_readWeak_0
  refine ⟨ok14 F, 15, rf14_0 F, ok15 F, Z_expect hS hC (by decide) ?_⟩
  cases e49 : ex b n i 49 with
  | error y =>
    rw [e49] at hE
    intro M1 X1 _
    exact ⟨rfl, V_wk X1 (EdP.vend hE ⟨[], (List.append_nil _).symm⟩ (by decide) ht0)⟩
  | ok i2 =>
  rw [e49] at hE
  have hE : EdP b n s n0 τ M0 o ps tl t0 (fun v M' => Q (some (.int v)) M') ((R1 i2).bind fun q => tlM b n m τ 50 j aw lit q.2.2 q.1 o q.2.1) := hE
  intro M1 C1 _
  refine ⟨rfl, hT i2 M1 _ e49 C1 ?_⟩
  cases e0 : R1 i2 with
  | error y =>
    rw [e0] at hE
    intro M2 ps2 v t2 X2 he hv ht _
    exact ⟨_, rfl, V_wk0 (h := H + 54) X2 hv (EdP.vend hE he (Nat.le_refl _) ht)⟩
  | ok q =>
    rw [e0] at hE
    obtain ⟨q1, q2⟩ := hR i2 q e49 e0
    have hE : EdP b n s n0 τ M0 o ps tl t0 (fun v M' => Q (some (.int v)) M') ((ex b n q.1 51).bind fun i2 => (atM b n m τ j i2 o q.2.1).bind fun r => (ex b n r.1 43).bind fun i3 => .ok (i3, trP1 r.2.1 (wkT (trS r.2.1) q.2.2 (Int32.ofNat r.2.2.1) r.2.2.2).1, (wkT (trS r.2.1) q.2.2 (Int32.ofNat r.2.2.1) r.2.2.2).2)) := hE
    intro M2 ps2 C2 he _
    have F2 := C2.1.1
    refine ⟨_, rfl, 15, rf14_0 F2, ok15 F2, Z_expect hS C2 (by decide) ?_⟩
    cases e1 : ex b n q.1 51 with
    | error y =>
      rw [e1] at hE
      intro M3 X3 _
      have X3 : CX n0 τ M0 (s + 70) 0 M3 y.1 y.2 ps2 tl (trS q.2.1).1 := X3
      exact ⟨rfl, V_wkx (h := H + 54) X3 q2 (EdP.vend hE he (by decide) q1)⟩
    | ok i2 =>
      rw [e1] at hE
      intro M3 C3 _
      have F3 := C3.1.1
      refine ⟨rfl, 15, rf14_0 F3, ok15 F3, Z_atM (h := H) (j := j) (m := m) (P := fun r10 r12 M11 => TWk1 (H + 53 + 7) (Int32.ofNat q.2.2) r12 r10 Q M11) hB hS C3 ho ?_⟩
      have hE : EdP b n s n0 τ M0 o ps tl t0 (fun v M' => Q (some (.int v)) M') ((atM b n m τ j i2 o q.2.1).bind _) := hE
      cases e2 : atM b n m τ j i2 o q.2.1 with
      | error y =>
        rw [e2] at hE
        exact fun M4 im v X4 => V_wk1 (h := H + 54) X4 q2 (EdP.vend hE he (by decide) q1)
      | ok r =>
        rw [e2] at hE
        obtain ⟨c1, c2⟩ := atM_cl e2
        have hE : EdP b n s n0 τ M0 o ps tl t0 (fun v M' => Q (some (.int v)) M') ((ex b n r.1 43).bind _) := hE
        intro M4 C4
        have F4 := C4.1.1
        refine ⟨15, rf14_0 F4, ok15 F4, Z_expect hS C4 (by decide) ?_⟩
        cases e3 : ex b n r.1 43 with
        | error y =>
          rw [e3] at hE
          intro M5 X5 _
          have X5 : CX n0 τ M0 (s + 70) 0 M5 y.1 y.2 ps2 tl (trS r.2.1).1 := X5
          rw [c2] at X5
          exact ⟨rfl, V_wk2 (h := H + 54) X5 q2 (EdP.vend hE he (by decide) q1)⟩
        | ok i3 =>
          rw [e3] at hE
          intro M5 C5 _
          have F5 := C5.1.1
          refine ⟨rfl, 4, rf14_1 F5, ok4 F5, S_wk F5 C5.2.1.trp (by show q.2.2 < (trS r.2.1).1; rw [c2]; exact q2) (fun M6 T6 k6 _ => ⟨_, rfl, ?_⟩)⟩
          have C6 := C5.tree k6 T6
          rw [← c1] at C6
          exact hE.oke he C6
theorem Z_susp (hB : By b) (hS : Sto b n s) (hC : CS b n s n0 τ M0 M i o γ cn ps tl) (ho : o ≤ 15) (hH : 60 ≤ H) (hT : ∀ Q' : Option Value → Mem → Prop, EdP b n s n0 τ M0 o ps tl t0 (fun v M' => Q' (some (.int v)) M') R0 → E H mdX4_readSeq [.ref 14, .int d] M Q') (hR : ∀ q, R0 = .ok q → t0 ≤ (trS q.2.1).1 ∧ q.2.2 < (trS q.2.1).1) (hE : EdP b n s n0 τ M0 o ps tl t0 (fun v M' => Q (some (.int v)) M') (R0.bind fun q => tlM b n m τ 52 j aw lit q.2.2 q.1 o q.2.1)) : E (H + 1) mdX4_readSuspend [.ref 14, .int d] M Q := by
  obtain ⟨H, rfl⟩ : ∃ H', H = H' + 54 + 6 := ⟨H - 60, by omega⟩
  refine KX4_readSuspend ?_
  unfold DX4_readSuspend_0
  refine ⟨ok14 hC.1.1, hT _ ?_⟩
  cases e0 : R0 with
  | error y =>
    rw [e0] at hE
    intro M2 ps2 v t2 X2 he hv ht _
    exact ⟨_, rfl, V_su0 X2 hv (EdP.vend hE he (Nat.le_refl _) ht)⟩
  | ok q =>
    rw [e0] at hE
    obtain ⟨q1, q2⟩ := hR q e0
    have hE : EdP b n s n0 τ M0 o ps tl t0 (fun v M' => Q (some (.int v)) M') ((ex b n q.1 51).bind fun i2 => (coM b n m τ j i2 o q.2.1).bind fun r => (ex b n r.1 43).bind fun i3 => .ok (i3, trP1 r.2.1 (suT (trS r.2.1) q.2.2 (Int32.ofNat r.2.2)).1, (suT (trS r.2.1) q.2.2 (Int32.ofNat r.2.2)).2)) := hE
    intro M2 ps2 C2 he _
    have F2 := C2.1.1
    refine ⟨_, rfl, 15, rf14_0 F2, ok15 F2, Z_expect hS C2 (by decide) ?_⟩
    cases e1 : ex b n q.1 51 with
    | error y =>
      rw [e1] at hE
      intro M3 X3 _
      have X3 : CX n0 τ M0 (s + 70) 0 M3 y.1 y.2 ps2 tl (trS q.2.1).1 := X3
      exact ⟨rfl, V_sux X3 q2 (EdP.vend hE he (by decide) q1)⟩
    | ok i2 =>
      rw [e1] at hE
      intro M3 C3 _
      refine ⟨rfl, Z_coM (j := j) (m := m) hB hS C3 ho (by omega) ?_⟩
      have hE : EdP b n s n0 τ M0 o ps tl t0 (fun v M' => Q (some (.int v)) M') ((coM b n m τ j i2 o q.2.1).bind _) := hE
      cases e2 : coM b n m τ j i2 o q.2.1 with
      | error y =>
        rw [e2] at hE
        exact fun M4 v X4 _ => ⟨_, rfl, V_su1 X4 q2 (EdP.vend hE he (by decide) q1)⟩
      | ok r =>
        rw [e2] at hE
        obtain ⟨c1, c2⟩ := coM_cl e2
        have hE : EdP b n s n0 τ M0 o ps tl t0 (fun v M' => Q (some (.int v)) M') ((ex b n r.1 43).bind _) := hE
        intro M4 C4 _
        have F4 := C4.1.1
        refine ⟨_, rfl, 15, rf14_0 F4, ok15 F4, Z_expect hS C4 (by decide) ?_⟩
        cases e3 : ex b n r.1 43 with
        | error y =>
          rw [e3] at hE
          intro M5 X5 _
          have X5 : CX n0 τ M0 (s + 70) 0 M5 y.1 y.2 ps2 tl (trS r.2.1).1 := X5
          rw [c2] at X5
          exact ⟨rfl, V_su2 X5 q2 (EdP.vend hE he (by decide) q1)⟩
        | ok i3 =>
          rw [e3] at hE
          intro M5 C5 _
          have F5 := C5.1.1
          refine ⟨rfl, 4, rf14_1 F5, ok4 F5, S_su F5 C5.2.1.trp (by show q.2.2 < (trS r.2.1).1; rw [c2]; exact q2) (fun M6 T6 k6 _ => ⟨_, rfl, ?_⟩)⟩
          have C6 := C5.tree k6 T6
          rw [← c1] at C6
          exact hE.oke he C6
end
end
section
/-! the class reads parts with rows: every, trap; await -/
section
variable {b : Nat → Int32} {n s n0 m : Nat} {τ : Td} {M0 M M' : Mem} {i o j g aw lit : Nat} {γ : ClT} {σ : PS} {K : List KE} {cn : Nat → Nat} {ps ps' : List Nat} {tl : List Int64} {f d : Int32} {p t t' h B t0 t1 v H : Nat} {Q : Option Value → Mem → Prop} {Q1 : Int32 → Mem → Prop} {R0 : Except (Int32 × Nat) (Nat × PS × Nat)} {W : Nat}
/-- every: its tree, behind 'end' -/
theorem Z_ev2 {l : Int32} {w : Nat} (hC : CS b n s n0 τ M0 M i o γ cn ps tl) (hv : v < γ.2.1.1) (hw : w < γ.2.1.1) (H : ∀ M', CS b n s n0 τ M0 M' i o (γ.1, (evT γ.2.1 v w l).1, γ.2.2) cn ps tl → Q (some (.int (Int32.ofNat (evT γ.2.1 v w l).2))) M') : TEv2 (h + 6) l (Int32.ofNat w) (Int32.ofNat v) Q M := by
  have F := hC.1.1
  have t1 := hC.t1
  have a1 := ts_ha (Θ := γ.2.1) t1
  have a2 : Ts (haT γ.2.1).1 (ev1 γ.2.1 v) := ts_pr (a1.one t1)
  have a3 : Ts (ev1 γ.2.1 v).1 (ev2 γ.2.1 v l) := ts_ab (a2.one (a1.one t1))
  have a4 : Ts (ev2 γ.2.1 v l).1 (ev3 γ.2.1 v l) := ts_wr (a3.one (a2.one (a1.one t1)))
  refine ⟨4, rf14_1 F, 4, rf14_1 F, ok4 F, S_ha F hC.2.1.trp (fun M1 T1 k1 _ => ⟨_, rfl, ok4 (k1.fix F), ?_⟩)⟩
  have C1 := hC.tree k1 T1
  refine S_pr C1.1.1 T1 (Nat.lt_of_lt_of_le hv a1.1) a1.2 (fun M2 T2 k2 _ => ⟨_, rfl, ?_⟩)
  have C2 := C1.tree k2 T2
  have F2 := C2.1.1
  refine ⟨4, rf14_1 F2, 4, rf14_1 F2, 4, rf14_1 F2, ok4 F2, S_ab F2 T2 a2.2 (fun M3 T3 k3 _ => ⟨_, rfl, ok4 (k3.fix F2), ?_⟩)⟩
  have C3 := C2.tree k3 T3
  refine S_wr C3.1.1 T3 a3.2 (fun M4 T4 k4 _ => ⟨_, rfl, ok4 (k4.fix C3.1.1), ?_⟩)
  have C4 := C3.tree k4 T4
  refine S_pr C4.1.1 T4 (Nat.lt_of_lt_of_le hw (Nat.le_trans a1.1 (Nat.le_trans a2.1 (Nat.le_trans a3.1 a4.1)))) a4.2 (fun M5 T5 k5 _ => ⟨_, rfl, ?_⟩)
  exact H M5 (C4.tree k5 T5)
theorem Z_ev43 {l : Int32} {w : Nat} (hS : Sto b n s) (hC : CS b n s n0 τ M0 M i o σ.2.1 σ.1.1 ps' tl) (he : ∃ x, ps' = ps ++ x) (hv : v < (trS σ).1) (hw : w < (trS σ).1) (ht : t0 ≤ (trS σ).1) (hE : EdP b n s n0 τ M0 o ps tl t0 (fun v M' => Q (some (.int v)) M') ((ex b n i 43).bind fun i2 => .ok (i2, trP1 σ (evT (trS σ) v w l).1, (evT (trS σ) v w l).2))) : TEv1 (h + 6) l (Int32.ofNat w) (Int32.ofNat v) Q M := by
  have F := hC.1.1
  refine ⟨15, rf14_0 F, ok15 F, Z_expect hS hC (by decide) ?_⟩
  cases e4 : ex b n i 43 with
  | error y =>
    rw [e4] at hE
    intro M5 X5 _
    have X5 : CX n0 τ M0 (s + 70) 0 M5 y.1 y.2 ps' tl (trS σ).1 := X5
    exact ⟨rfl, V_ev2 X5 hv hw (EdP.vend hE he (by decide) ht)⟩
  | ok i3 =>
    rw [e4] at hE
    intro M5 C5 _
    refine ⟨rfl, Z_ev2 C5 hv hw ?_⟩
    rw [show trS σ = σ.2.1.2.1 from rfl] at hE
    generalize evT σ.2.1.2.1 v w l = X at hE ⊢
    exact fun M6 C6 => hE.oke he C6
theorem Z_every {R1 : Nat × PS × Nat × Bool → Nat → Except (Int32 × Nat) (Nat × PS × Nat)} (hB : By b) (hS : Sto b n s) (hC : CS b n s n0 τ M0 M i o σ.2.1 σ.1.1 ps tl) (ho : o ≤ 15) (hH : 67 ≤ H)
    (hT : ∀ (r : Nat × PS × Nat × Bool) (i2 : Nat) (M' : Mem) (Q' : Option Value → Mem → Prop), atM b n m τ j i o σ = .ok r → ex b n r.1 54 = .ok i2 → CS b n s n0 τ M0 M' i2 o (trP1 r.2.1 (awT (trS r.2.1) (Int32.ofNat r.2.2.1) r.2.2.2).1).2.1 r.2.1.1.1 ps tl → EdP b n s n0 τ M0 o ps tl (awT (trS r.2.1) (Int32.ofNat r.2.2.1) r.2.2.2).1.1 (fun v M' => Q' (some (.int v)) M') (R1 r i2) → E H mdX4_readTrapped [.ref 14, .long 0, .int d] M' Q')
    (hR : ∀ r i2 q, atM b n m τ j i o σ = .ok r → ex b n r.1 54 = .ok i2 → R1 r i2 = .ok q → (awT (trS r.2.1) (Int32.ofNat r.2.2.1) r.2.2.2).1.1 ≤ (trS q.2.1).1 ∧ q.2.2 < (trS q.2.1).1)
    (hE : EdP b n s n0 τ M0 o ps tl (trS σ).1 (fun v M' => Q (some (.int v)) M') ((atM b n m τ j i o σ).bind fun r => (ex b n r.1 54).bind fun i2 => (R1 r i2).bind fun q => tlM b n m τ 53 j (awT (trS r.2.1) (Int32.ofNat r.2.2.1) r.2.2.2).2 r.2.2.1 q.2.2 q.1 o q.2.1)) : E (H + 1) mdX4_readEvery [.ref 14, .int d] M Q := by
  obtain ⟨H, rfl⟩ : ∃ H', H = H' + 60 + 7 := ⟨H - 67, by omega⟩
  have F := hC.1.1
  have t1 : 1 ≤ (trS σ).1 := hC.t1
  refine KX4_readEvery ?_
  unfold DX4_readEvery_0
  refine ⟨ok14 F, 15, rf14_0 F, ok15 F, Z_atM (h := H + 7) (j := j) (m := m) (P := fun r5 r7 M6 => TEvw (H + 60 + 7) r7 r5 d Q M6) hB hS hC ho ?_⟩
  cases e1 : atM b n m τ j i o σ with
  | error y =>
    rw [e1] at hE
    exact fun M1 im v X1 => V_evw X1 (EdP.vend hE ⟨[], (List.append_nil _).symm⟩ (by decide) (Nat.le_refl _))
  | ok r =>
    rw [e1] at hE
    obtain ⟨c1, c2⟩ := atM_cl e1
    have tw : Ts (trS r.2.1) (awT (trS r.2.1) (Int32.ofNat r.2.2.1) r.2.2.2) := ts_aw (by rw [c2]; exact t1)
    have tw1 : (trS σ).1 ≤ (awT (trS r.2.1) (Int32.ofNat r.2.2.1) r.2.2.2).1.1 := by have := tw.1; rw [c2] at this ⊢; exact this
    have tw2 := tw.2
    have hE : EdP b n s n0 τ M0 o ps tl (trS σ).1 (fun v M' => Q (some (.int v)) M') ((ex b n r.1 54).bind fun i2 => (R1 r i2).bind fun q => tlM b n m τ 53 j (awT (trS r.2.1) (Int32.ofNat r.2.2.1) r.2.2.2).2 r.2.2.1 q.2.2 q.1 o q.2.1) := hE
    intro M1 C1
    have F1 := C1.1.1
    refine ⟨4, rf14_1 F1, ok4 F1, S_aw F1 C1.2.1.trp (fun M2 T2 k2 _ => ⟨_, rfl, ?_⟩)⟩
    have C2 : CS b n s n0 τ M0 M2 r.1 o (trP1 r.2.1 (awT (trS r.2.1) (Int32.ofNat r.2.2.1) r.2.2.2).1).2.1 σ.1.1 ps tl := C1.tree k2 T2
    rw [← c1] at C2
    have F2 := C2.1.1
    refine ⟨15, rf14_0 F2, ok15 F2, Z_expect hS C2 (by decide) ?_⟩
    cases e2 : ex b n r.1 54 with
    | error y =>
      rw [e2] at hE
      intro M3 X3 _
      have X3 : CX n0 τ M0 (s + 70) 0 M3 y.1 y.2 ps tl (awT (trS r.2.1) (Int32.ofNat r.2.2.1) r.2.2.2).1.1 := X3
      exact ⟨rfl, V_evx X3 tw2 (EdP.vend hE ⟨[], (List.append_nil _).symm⟩ (by decide) tw1)⟩
    | ok i2 =>
      rw [e2] at hE
      have hE : EdP b n s n0 τ M0 o ps tl (trS σ).1 (fun v M' => Q (some (.int v)) M') ((R1 r i2).bind fun q => tlM b n m τ 53 j (awT (trS r.2.1) (Int32.ofNat r.2.2.1) r.2.2.2).2 r.2.2.1 q.2.2 q.1 o q.2.1) := hE
      intro M3 C3 _
      refine ⟨rfl, hT r i2 M3 _ e1 e2 C3 ?_⟩
      cases e3 : R1 r i2 with
      | error y =>
        rw [e3] at hE
        intro M4 ps4 v t4 X4 he hv ht _
        exact ⟨_, rfl, V_ev1 (h := H + 61) X4 hv (Nat.lt_of_lt_of_le tw2 ht) (EdP.vend hE he (Nat.le_refl _) (Nat.le_trans tw1 ht))⟩
      | ok q =>
        rw [e3] at hE
        obtain ⟨q1, q2⟩ := hR r i2 q e1 e2 e3
        have hE : EdP b n s n0 τ M0 o ps tl (trS σ).1 (fun v M' => Q (some (.int v)) M') ((ex b n q.1 43).bind fun i2 => .ok (i2, trP1 q.2.1 (evT (trS q.2.1) q.2.2 (awT (trS r.2.1) (Int32.ofNat r.2.2.1) r.2.2.2).2 (Int32.ofNat r.2.2.1)).1, (evT (trS q.2.1) q.2.2 (awT (trS r.2.1) (Int32.ofNat r.2.2.1) r.2.2.2).2 (Int32.ofNat r.2.2.1)).2)) := hE
        intro M4 ps4 C4 he _
        exact ⟨_, rfl, Z_ev43 (h := H + 61) hS C4 he q2 (Nat.lt_of_lt_of_le tw2 q1) (Nat.le_trans tw1 q1) hE⟩
theorem Z_trap {R1 : Nat → Except (Int32 × Nat) (Nat × PS × Nat)} (hB : By b) (hS : Sto b n s) (hC : CS b n s n0 τ M0 M i o γ cn ps (tlK K)) (hH : 20 ≤ H) (ht0 : t0 ≤ γ.2.1.1)
    (hT : ∀ (i3 : Nat) (M' : Mem) (Q' : Option Value → Mem → Prop), tK b n i = 2 → ¬ (toT (tC b n i) τ = true ∨ (trW K (tC b n i)).isSome = true) → ((adv' b n i).bind fun i2 => ex b n i2 56) = .ok i3 → CS b n s n0 τ M0 M' i3 o γ cn ps (tlK K) → EdP b n s n0 τ M0 o ps (tlK K) t0 (fun v M' => Q' (some (.int v)) M') (R1 i3) → E H mdX4_readTrapped [.ref 14, .long (tC b n i), .int d] M' Q')
    (hR : ∀ i3 q, tK b n i = 2 → ¬ (toT (tC b n i) τ = true ∨ (trW K (tC b n i)).isSome = true) → ((adv' b n i).bind fun i2 => ex b n i2 56) = .ok i3 → R1 i3 = .ok q → t0 ≤ (trS q.2.1).1 ∧ q.2.2 < (trS q.2.1).1)
    (hE : EdP b n s n0 τ M0 o ps (tlK K) t0 (fun v M' => Q (some (.int v)) M') (if tK b n i = 2 then (if toT (tC b n i) τ = true ∨ (trW K (tC b n i)).isSome = true then .error (3, tP b n i) else ((adv' b n i).bind fun i2 => ex b n i2 56).bind fun i3 => (R1 i3).bind fun q => tlM b n m τ 55 j aw lit q.2.2 q.1 o q.2.1) else .error (2, tP b n i))) : E (H + 1) mdX4_readTrap [.ref 14, .int d] M Q := by
  obtain ⟨H, rfl⟩ : ∃ H', H = H' + 13 + 7 := ⟨H - 20, by omega⟩
  have F := hC.1.1
  have N := hC.2.1.nz
  have kd : mI M 15 9 = tK b n i := hC.1.kind
  refine KX4_readTrap ?_
  unfold DX4_readTrap_0
  refine ⟨ok14 F, 15, rf14_0 F, ok15 F, 15, rf14_0 F, ok15 F, fun z => ?_, fun z => ⟨15, rf14_0 F, ok15 F, Z_fail hC (by decide) (fun M1 X1 _ => ⟨rfl, ?_⟩)⟩⟩
  · rw [kd] at z
    rw [if_pos z] at hE
    rw [hC.1.word hB z]
    have bad : (toT (tC b n i) τ = true ∨ (trW K (tC b n i)).isSome = true) → DX4_readTrap_50 (H + 13 + 7) 14 d (tC b n i) M Q := by
      intro y
      rw [if_pos y] at hE
      unfold DX4_readTrap_50
      exact ⟨ok14 F, 15, rf14_0 F, ok15 F, Z_fail hC (by decide) (fun M1 X1 _ => ⟨rfl, V_tr58 (h := H + 13) X1 (EdP.vend hE ⟨[], (List.append_nil _).symm⟩ (by decide) ht0)⟩)⟩
    have r2 := hC.2.1.rd.1.2.1
    refine ⟨n0, N.2.2.2.2.2.1, N.2.2.1, S_isTold hC.2.1.env (fun _ => ⟨_, rfl, fun y => bad (Or.inl ?_), fun y => S_trapsW F hC.2.1 (fun _ => ⟨_, rfl, fun y2 => ?_, fun y2 => bad (Or.inr ?_)⟩)⟩)⟩
    · by_cases w : toT (tC b n i) τ = true
      · exact w
      · exact absurd (if_neg w) y
    · have w1 : ¬ toT (tC b n i) τ = true := fun w => by
        have : (if ((fd τ.1 (tC b n i)).isSome || (fd τ.2.2.2.1 (tC b n i)).isSome) = true then (1 : Int32) else 0) = 1 := if_pos w
        rw [this] at y
        exact absurd y (by decide)
      have w2 : ¬ (trW K (tC b n i)).isSome = true := fun w => by
        rw [← trW_fd K] at y2
        cases e : trW K (tC b n i) with
        | none => rw [e] at w; cases w
        | some q =>
          have ql : q.1 < 1000 := by
            have := (fd_some (c := tC b n i) (l := tlK K) (k := q.1) (by rw [← trW_fd K, e]; rfl)).1
            omega
          rw [e] at y2
          exact absurd y2 (oi_ne ql)
      have nw : ¬ (toT (tC b n i) τ = true ∨ (trW K (tC b n i)).isSome = true) := by
        rintro (q | q)
        · exact w1 q
        · exact w2 q
      rw [if_neg nw] at hE
      unfold DX4_readTrap_58
      refine ⟨ok14 F, 15, rf14_0 F, ok15 F, Z_adv hS hC (by rw [z]; decide) ?_⟩
      cases ea : adv' b n i with
      | error q =>
        rw [ea] at hE
        intro M1 X1 _
        have F1 := X1.1.1
        exact ⟨rfl, 15, rf14_0 F1, ok15 F1, V_expect X1 (by decide) (fun _ => ⟨rfl, V_trx X1 (EdP.vend hE ⟨[], (List.append_nil _).symm⟩ (by decide) ht0)⟩)⟩
      | ok i2 =>
        have fe : ((adv' b n i).bind fun i2 => ex b n i2 56) = ex b n i2 56 := by rw [ea]; rfl
        rw [fe] at hE
        intro M1 C1 _
        have F1 := C1.1.1
        refine ⟨rfl, 15, rf14_0 F1, ok15 F1, Z_expect hS C1 (by decide) ?_⟩
        cases e6 : ex b n i2 56 with
        | error q =>
          rw [e6] at hE
          intro M2 X2 _
          exact ⟨rfl, V_trx X2 (EdP.vend hE ⟨[], (List.append_nil _).symm⟩ (by decide) ht0)⟩
        | ok i3 =>
          rw [e6] at hE fe
          have hE : EdP b n s n0 τ M0 o ps (tlK K) t0 (fun v M' => Q (some (.int v)) M') ((R1 i3).bind fun q => tlM b n m τ 55 j aw lit q.2.2 q.1 o q.2.1) := hE
          intro M2 C2 _
          refine ⟨rfl, hT i3 M2 _ z nw fe C2 ?_⟩
          cases e7 : R1 i3 with
          | error q =>
            rw [e7] at hE
            intro M3 ps3 v t3 X3 he hv ht _
            exact ⟨_, rfl, V_tr1 (h := H + 14) X3 hv (EdP.vend hE he (Nat.le_refl _) ht)⟩
          | ok q =>
            rw [e7] at hE
            obtain ⟨q1, q2⟩ := hR i3 q z nw fe e7
            have hE : EdP b n s n0 τ M0 o ps (tlK K) t0 (fun v M' => Q (some (.int v)) M') ((ex b n q.1 43).bind fun i2 => .ok (i2, trP1 q.2.1 (wrT (trS q.2.1) 9 q.2.2).1, (wrT (trS q.2.1) 9 q.2.2).2)) := hE
            intro M3 ps3 C3 he _
            have F3 := C3.1.1
            refine ⟨_, rfl, 15, rf14_0 F3, ok15 F3, Z_expect hS C3 (by decide) ?_⟩
            cases e8 : ex b n q.1 43 with
            | error w =>
              rw [e8] at hE
              intro M4 X4 _
              have X4 : CX n0 τ M0 (s + 70) 0 M4 w.1 w.2 ps3 (tlK K) (trS q.2.1).1 := X4
              exact ⟨rfl, V_tr2 (h := H + 14) X4 q2 (EdP.vend hE he (by decide) q1)⟩
            | ok i4 =>
              rw [e8] at hE
              intro M4 C4 _
              have F4 := C4.1.1
              refine ⟨rfl, 4, rf14_1 F4, ok4 F4, S_wr F4 C4.2.1.trp q2 (fun M5 T5 k5 _ => ⟨_, rfl, ?_⟩)⟩
              exact hE.oke he (C4.tree k5 T5)
    · rw [← trW_fd K] at y2
      cases e : trW K (tC b n i) with
      | none => rw [e] at y2; exact absurd rfl y2
      | some q => rfl
  · rw [kd] at z
    rw [if_neg z] at hE
    exact V_tr58 (h := H + 13) X1 (EdP.vend hE ⟨[], (List.append_nil _).symm⟩ (by decide) ht0)
/-- await -/
theorem Z_await {w : Int64} (hB : By b) (hS : Sto b n s) (hC : CS b n s n0 τ M0 M i K.length σ.2.1 σ.1.1 ps tl) (ho : K.length ≤ 15) (hE : EdP b n s n0 τ M0 K.length ps tl (trS σ).1 (fun v M' => Q (some (.int v)) M') (lfM b n m τ 47 w j i K σ)) : E (h + 60) mdX7_accept [.ref 15, .int 48] M (fun r M9 => mE M M9 → ∃ r10 : Int32, r = some (.int r10) ∧ ∃ b11 : Nat, mR M9 14 1 = some b11 ∧ E (h + 60) mdX4_readCondition [.ref 14] M9 (fun r M11 => mE M9 M11 → ∃ r12 : Int32, r = some (.int r12) ∧ ok M11 b11 10 ∧ E (h + 60) mdX8_await [.ref b11, .int r12, .int r10] M11 (fun r M13 => mE M11 M13 → ∃ r14 : Int32, r = some (.int r14) ∧ Q (some (.int r14)) M13))) := by
  have hE : EdP b n s n0 τ M0 K.length ps tl (trS σ).1 (fun v M' => Q (some (.int v)) M') ((atM b n m τ j i K.length σ).bind fun r => .ok (r.1, trP1 r.2.1 (awT (trS r.2.1) (Int32.ofNat r.2.2.1) r.2.2.2).1, (awT (trS r.2.1) (Int32.ofNat r.2.2.1) r.2.2.2).2)) := hE
  have hcl := fun r => atM_cl (b := b) (n := n) (m := m) (τ := τ) (j := j) (i := i) (o := K.length) (σ := σ) (r := r)
  unfold atM imM at hE hcl
  have vx : ∀ (M1 : Mem) (f : Int32) (p : Nat) (im : Bool) (l : Int32), CX n0 τ M0 (s + 70) 0 M1 f p ps tl (trS σ).1 → EdP b n s n0 τ M0 K.length ps tl (trS σ).1 (fun v M' => Q (some (.int v)) M') (.error (f, p)) → E (h + 60) mdX8_await [.ref 4, .int l, .int (b32 im)] M1 (fun r M13 => mE M1 M13 → ∃ r14 : Int32, r = some (.int r14) ∧ Q (some (.int r14)) M13) := by
    intro M1 f p im l X1 hq
    exact V_op X1 (fun Θ hT ht h0 => ⟨awT Θ l im, ts_aw h0, fun Q' H' => S_aw X1.1.1 hT H'⟩) (fun M2 w1 t1 X2 q1 u1 _ => ⟨_, rfl, hq.er X2 (by decide) u1 q1⟩)
  have go : ∀ (M1 : Mem) (i1 : Nat) (im : Bool), CS b n s n0 τ M0 M1 i1 K.length σ.2.1 σ.1.1 ps tl → (∀ r, ((coM b n m τ j i1 K.length (if im = true then raP σ (up2 σ.1.2.1 61 (40 * m + j) 1) else σ)).bind fun q => .ok (q.1, q.2.1, q.2.2, im) : Except (Int32 × Nat) (Nat × PS × Nat × Bool)) = .ok r → r.2.1.1.1 = σ.1.1 ∧ trS r.2.1 = trS σ) → EdP b n s n0 τ M0 K.length ps tl (trS σ).1 (fun v M' => Q (some (.int v)) M') (((coM b n m τ j i1 K.length (if im = true then raP σ (up2 σ.1.2.1 61 (40 * m + j) 1) else σ)).bind fun q => .ok (q.1, q.2.1, q.2.2, im) : Except (Int32 × Nat) (Nat × PS × Nat × Bool)).bind fun r => .ok (r.1, trP1 r.2.1 (awT (trS r.2.1) (Int32.ofNat r.2.2.1) r.2.2.2).1, (awT (trS r.2.1) (Int32.ofNat r.2.2.1) r.2.2.2).2)) → E (h + 60) mdX4_readCondition [.ref 14] M1 (fun r M11 => mE M1 M11 → ∃ r12 : Int32, r = some (.int r12) ∧ ok M11 4 10 ∧ E (h + 60) mdX8_await [.ref 4, .int r12, .int (b32 im)] M11 (fun r M13 => mE M11 M13 → ∃ r14 : Int32, r = some (.int r14) ∧ Q (some (.int r14)) M13)) := by
    intro M1 i1 im C1 hc hq
    have e1 : (if im = true then raP σ (up2 σ.1.2.1 61 (40 * m + j) 1) else σ).2 = σ.2 := by cases im <;> rfl
    generalize (if im = true then raP σ (up2 σ.1.2.1 61 (40 * m + j) 1) else σ) = σ1 at hq e1 hc
    have C1 : CS b n s n0 τ M0 M1 i1 K.length σ1.2.1 σ.1.1 ps tl := by rw [e1]; exact C1
    refine Z_coM (j := j) (m := m) hB hS C1 ho (by omega) ?_
    have e2 : (trS σ1).1 = (trS σ).1 := by show σ1.2.1.2.1.1 = _; rw [e1]; rfl
    cases e : coM b n m τ j i1 K.length σ1 with
    | error y => rw [e] at hq; exact fun M' v X' _ => ⟨_, rfl, ok4 X'.1.1, vx M' _ _ im v (by rw [← e2]; exact X') hq⟩
    | ok q =>
      rw [e] at hq hc
      obtain ⟨c1, -⟩ := hc (q.1, q.2.1, q.2.2, im) rfl
      have c1 : q.2.1.1.1 = σ.1.1 := c1
      intro M' C' _
      refine ⟨_, rfl, ok4 C'.1.1, S_aw C'.1.1 C'.2.1.trp (fun M2 T2 k2 _ => ⟨_, rfl, ?_⟩)⟩
      have C2 := C'.tree k2 T2
      rw [← c1] at C2
      exact hq.ok' C2
  refine Z_accept hS hC (by decide) (fun k => ?_) (fun k _ => ⟨_, rfl, 4, rf14_1 hC.1.1, ?_⟩)
  · rw [if_pos k] at hE
    cases ea : adv' b n i with
    | error y =>
      rw [ea] at hE
      exact fun M1 X1 _ => ⟨_, rfl, 4, rf14_1 X1.1.1, V_cond X1 (by omega) (fun _ => ⟨_, rfl, ok4 X1.1.1, vx M1 _ _ true 0 X1 hE⟩)⟩
    | ok i1 =>
      rw [ea] at hE
      refine fun M1 C1 _ => ⟨_, rfl, 4, rf14_1 C1.1.1, go M1 i1 true C1 (fun r hr => ?_) hE⟩
      refine hcl r ?_
      rw [if_pos k, ea]
      exact hr
  · rw [if_neg k] at hE
    refine go M i false hC (fun r hr => ?_) hE
    refine hcl r ?_
    rw [if_neg k]
    exact hr
end
end
