/-! the class reads parts: sustain, exit, assign -/
section
variable {b : Nat → Int32} {n s n0 m : Nat} {τ : Td} {M0 M M' : Mem} {i o i' o' j : Nat} {γ : ClT} {σ : PS} {K : List KE} {cn cn' : Nat → Nat} {ps : List Nat} {tl : List Int64} {f c : Int32} {p t t' h B t0 : Nat} {Q : Option Value → Mem → Prop} {Q1 : Int32 → Mem → Prop} {W : Nat}
theorem Z_sust {w : Int64} {H : Nat} (hB : By b) (hS : Sto b n s) (hC : CS b n s n0 τ M0 M i K.length σ.2.1 σ.1.1 ps tl) (hH : 80 ≤ H) (hE : EdP b n s n0 τ M0 K.length ps tl (trS σ).1 (fun v M' => Q (some (.int v)) M') (lfM b n m τ 41 w j i K σ)) : E H mdX4_readSustain [.ref 14] M Q := by
  obtain ⟨H, rfl⟩ : ∃ H', H = H' + 80 := ⟨H - 80, by omega⟩
  have F := hC.1.1
  have t1 : 1 ≤ (trS σ).1 := hC.t1
  have hE : EdP b n s n0 τ M0 K.length ps tl (trS σ).1 (fun v M' => Q (some (.int v)) M') ((emM b n m τ 41 j i K.length σ).bind fun r => .ok (r.1, trP1 r.2.1 (stT (trS r.2.1) r.2.2).1, (stT (trS r.2.1) r.2.2).2)) := hE
  unfold emM at hE
  refine KX4_readSustain ?_
  unfold DX4_readSustain_0 DX4_readSustain_35 DX4_readSustain_58
  refine ⟨ok14 F, 15, rf14_0 F, ok15 F, Z_emitted hB hC (fun hk k e hl hro _ => ⟨_, rfl, ?_⟩) (fun hk e M4 X4 _ => ⟨_, rfl, ?_⟩) (fun hk M4 X4 _ => ⟨_, rfl, ?_⟩)⟩
  · rw [if_pos hk, e] at hE
    have hE : EdP b n s n0 τ M0 K.length ps tl (trS σ).1 (fun v M' => Q (some (.int v)) M') ((if τ.2.1.getD k 0 = 30 then _ else _ : Except (Int32 × Nat) (Nat × PS × Nat)).bind _) := hE
    rw [if_neg hro] at hE
    have k16 := hC.2.1.env.2.1.1
    have pl : mI M 15 10 = Int32.ofNat (tP b n i) := hC.1.2.2.2.2.2.2.1
    refine ⟨15, rf14_0 F, ok15 F, Z_adv hS hC (by rw [hk]; decide) ?_⟩
    cases ea : adv' b n i with
    | error y =>
      rw [ea] at hE
      intro M8 X8 _
      have F8 := X8.1.1
      refine ⟨rfl, fun z => absurd z (oi_ne (by omega)), fun _ => ⟨15, rf14_0 F8, ok15 F8, fun z => absurd z (by rw [X8.1.2.2.1]; exact X8.1.2.2.2.1), fun _ => ?_⟩⟩
      exact EdP.er (v := 0) hE X8 (by decide) t1 (Nat.le_refl _)
    | ok i2 =>
      rw [ea] at hE
      have hE : EdP b n s n0 τ M0 K.length ps tl (trS σ).1 (fun v M' => Q (some (.int v)) M') ((if τ.2.2.1.getD k 0 = 0 then _ else _ : Except (Int32 × Nat) (Nat × PS × Nat)).bind _) := hE
      intro M8 C8 _
      have F8 := C8.1.1
      have hV := C8.2.1.env
      obtain ⟨-, -, -, -, -, -, -, -, h27, ⟨c1, c2, c3⟩, -⟩ := id hV
      refine ⟨rfl, fun z => absurd z (oi_ne (by omega)), fun _ => ⟨15, rf14_0 F8, ok15 F8, fun _ => ⟨n0, C8.2.1.nz.2.2.2.2.2.1, hV.1, n0 + 3, h27, c1, by rw [c2]; exact vp_of (by omega) (by decide), ?_, ?_⟩, fun z => absurd C8.1.2.2.2.2.2.2.2.2.1 z⟩⟩
      · rw [lt32 (by omega), c3 k hl]
        intro mx
        rw [if_pos mx, if_neg (fun y => absurd y.1 (by decide))] at hE
        refine ⟨ok14 F8, 4, rf14_1 F8, ok4 F8, S_st F8 C8.2.1.trp (fun M9 T9 k9 _ => ⟨_, rfl, ?_⟩)⟩
        exact hE.ok' (C8.tree k9 T9)
      · rw [lt32 (by omega), c3 k hl]
        intro mx
        rw [if_neg mx, if_neg (fun y => absurd y.1 (by decide))] at hE
        refine ⟨15, rf14_0 F8, ok15 F8, A_failAt C8.1 (by decide) pl (fun M9 T9 k9 _ => ⟨rfl, ?_⟩)⟩
        have X9 := C8.x (B := 0) k9 T9
        have F9 := X9.1.1
        exact ⟨ok14 F9, 4, rf14_1 F9, ok4 F9, V_op X9 (fun Θ hT _ h1 => ⟨stT Θ k, ts_st h1, fun Q' H' => S_st F9 hT H'⟩) (fun M' v t' X' ht hv _ => ⟨_, rfl, EdP.er hE X' (by decide) hv ht⟩)⟩
  · rw [if_pos hk] at hE
    have F4 := X4.1.1
    refine ⟨15, rf14_0 F4, ok15 F4, V_adv X4 (fun _ => ⟨rfl, fun _ => ?_, fun z => absurd rfl z⟩)⟩
    rcases e with e | ⟨k, e, hro⟩
    · rw [e] at hE
      exact EdP.er (v := 0) hE X4 (by decide) t1 (Nat.le_refl _)
    · rw [e] at hE
      have hE : EdP b n s n0 τ M0 K.length ps tl (trS σ).1 (fun v M' => Q (some (.int v)) M') ((if τ.2.1.getD k 0 = 30 then _ else _ : Except (Int32 × Nat) (Nat × PS × Nat)).bind _) := hE
      rw [if_pos hro] at hE
      exact EdP.er (v := 0) hE X4 (by decide) t1 (Nat.le_refl _)
  · rw [if_neg hk] at hE
    have F4 := X4.1.1
    refine ⟨15, rf14_0 F4, ok15 F4, V_adv X4 (fun _ => ⟨rfl, fun _ => ?_, fun z => absurd rfl z⟩)⟩
    exact EdP.er (v := 0) hE X4 (by decide) t1 (Nat.le_refl _)
/-- the traps within the named one -/
theorem ctrap_loop {c : Int64} (F : Fix M) (h3 : mI M 14 3 = Int32.ofNat tl.length) (h16 : tl.length ≤ 16) (hr : ∀ j, j < tl.length → mAJ M 20 j = tl.getD (tl.length - 1 - j) 0) : ∀ (l : List Int64) (j : Nat), j + l.length = tl.length → (∀ m, m < l.length → tl.getD (j + m) 0 = l.getD m 0) → Q (some (.int (oj j (fd l c)))) M → T (h + 1) mdX4_trapsWithin 2 [(0, .ref 14), (1, .long c), (3, .int (Int32.ofNat j))] [] M Q := by
  intro l
  induction l with
  | nil =>
    intro j hj _ H
    refine VX4_trapsWithin_2 ?_
    unfold DX4_trapsWithin_2
    have hj : j = tl.length := hj
    rw [h3]
    refine ⟨ok14 F, fun _ => H, fun hc => absurd ((le32 (by omega) (by omega)).mpr (by omega)) hc⟩
  | cons x l ih =>
    intro j hj hv H
    have hj : j + (l.length + 1) = tl.length := hj
    refine VX4_trapsWithin_2 ?_
    unfold DX4_trapsWithin_2
    have e1 : Int32.ofNat tl.length - 1 - Int32.ofNat j = Int32.ofNat (tl.length - 1 - j) := by
      rw [show tl.length = (tl.length - 1) + 1 by omega, dec32 (by omega), sub32 (by omega) (by omega)]
      congr 1
    rw [h3, e1, lt32 (by omega), succ32]
    have v0 : mAJ M 20 (tl.length - 1 - j) = x := by
      rw [hr _ (by omega), show tl.length - 1 - (tl.length - 1 - j) = j + 0 by omega]
      exact hv 0 (Nat.zero_lt_succ _)
    unfold fd at H
    refine ⟨ok14 F, fun hc => absurd ((le32 (by omega) (by omega)).mp hc) (by omega), fun _ => ⟨20, rf14_2 F, ok20 F, by rw [ln20 F]; exact vp_of (by omega) (by decide), fun hc => ?_, fun hc => ?_⟩⟩
    · rw [v0, lgz] at hc
      rw [if_neg hc, oj_map] at H
      refine ih (j + 1) (by omega) (fun m hm => ?_) H
      have := hv (m + 1) (Nat.succ_lt_succ hm)
      rw [show j + 1 + m = j + (m + 1) by omega, this]
      rfl
    · rw [v0, lgz] at hc
      rw [if_pos hc] at H
      exact H
theorem S_trapsW {c : Int64} (F : Fix M) (hC : CQ n0 τ M0 M γ cn ps tl) (H : Q (some (.int (oi (fd tl c)))) M) : E (h + 1) mdX4_trapsWithin [.ref 14, .long c] M Q := by
  obtain ⟨⟨r1, r2, r3⟩, -⟩ := hC.rd
  refine KX4_trapsWithin ?_
  unfold DX4_trapsWithin_0
  refine ctrap_loop F r1 r2 r3 tl 0 (Nat.zero_add _) (fun m hm => by rw [Nat.zero_add]) ?_
  have e : oj 0 (fd tl c) = oi (fd tl c) := by
    cases fd tl c with
    | none => rfl
    | some k => show Int32.ofNat (0 + k) = Int32.ofNat k; rw [Nat.zero_add]
  rw [e]
  exact H
theorem trW_fd {c : Int64} : ∀ K : List KE, (trW K c).map (fun r => r.1) = fd (tlK K) c := by
  intro K
  induction K with
  | nil => rfl
  | cons e K ih =>
    unfold trW
    cases h : e.2.2.2 with
    | none =>
      show (trW K c).map (fun r => r.1) = fd (tlK (e :: K)) c
      have : tlK (e :: K) = tlK K := by unfold tlK; rw [List.filterMap_cons, h]
      rw [this]; exact ih
    | some x =>
      have : tlK (e :: K) = x :: tlK K := by unfold tlK; rw [List.filterMap_cons, h]
      rw [this]
      unfold fd
      show (if x = c then some (0, e.1) else (trW K c).map fun r => (r.1 + 1, r.2)).map (fun r => r.1) = _
      by_cases q : x = c
      · rw [if_pos q, if_pos q]; rfl
      · rw [if_neg q, if_neg q, ← ih]
        cases trW K c with
        | none => rfl
        | some r => rfl
theorem Z_exit {w : Int64} {H : Nat} (hB : By b) (hS : Sto b n s) (hC : CS b n s n0 τ M0 M i K.length σ.2.1 σ.1.1 ps (tlK K)) (hH : 10 ≤ H) (hE : EdP b n s n0 τ M0 K.length ps (tlK K) (trS σ).1 (fun v M' => Q (some (.int v)) M') (lfM b n m τ 57 w j i K σ)) : E H mdX4_readExit [.ref 14] M Q := by
  obtain ⟨H, rfl⟩ : ∃ H', H = H' + 10 := ⟨H - 10, by omega⟩
  have F := hC.1.1
  have t1 : 1 ≤ (trS σ).1 := hC.t1
  have kd : mI M 15 9 = tK b n i := hC.1.kind
  have hE : EdP b n s n0 τ M0 K.length ps (tlK K) (trS σ).1 (fun v M' => Q (some (.int v)) M') (if tK b n i = 2 then (match trW K (tC b n i) with
      | none => .error (4, tP b n i)
      | some q => (adv' b n i).bind fun i2 => .ok (i2, trP1 (raP σ (up2 σ.1.2.1 60 (40 * m + j) (Int32.ofNat q.2))) (exT (trS σ) q.1).1, (exT (trS σ) q.1).2))
    else .error (2, tP b n i)) := hE
  refine KX4_readExit ?_
  unfold DX4_readExit_0
  refine ⟨ok14 F, 15, rf14_0 F, ok15 F, fun z => ?_, fun z => ?_⟩
  · rw [kd] at z
    rw [if_pos z] at hE
    refine ⟨15, rf14_0 F, ok15 F, S_trapsW F hC.2.1 (fun _ => ⟨_, rfl, ?_⟩)⟩
    rw [hC.1.word hB z, ← trW_fd K]
    have r2 := hC.2.1.rd.1.2.1
    have fl := fun k => fd_some (c := tC b n i) (l := tlK K) (k := k)
    cases e : trW K (tC b n i) with
    | none =>
      rw [e] at hE
      refine ⟨fun y => absurd rfl y, fun _ => ⟨15, rf14_0 F, ok15 F, Z_fail hC (by decide) (fun M' X' _ => ⟨rfl, ?_⟩)⟩⟩
      exact EdP.er (v := 0) hE X' (by decide) t1 (Nat.le_refl _)
    | some q =>
      rw [e] at hE
      have ql : q.1 < 1000 := by
        have := (fl q.1 (by rw [← trW_fd K, e]; rfl)).1
        omega
      refine ⟨fun _ => ⟨15, rf14_0 F, ok15 F, Z_adv hS hC (by rw [z]; decide) ?_⟩, fun y => absurd y (oi_ne ql)⟩
      have hE : EdP b n s n0 τ M0 K.length ps (tlK K) (trS σ).1 (fun v M' => Q (some (.int v)) M') ((adv' b n i).bind fun i2 => .ok (i2, trP1 (raP σ (up2 σ.1.2.1 60 (40 * m + j) (Int32.ofNat q.2))) (exT (trS σ) q.1).1, (exT (trS σ) q.1).2)) := hE
      cases ea : adv' b n i with
      | error y =>
        rw [ea] at hE
        intro M8 X8 _
        have F8 := X8.1.1
        exact ⟨rfl, 4, rf14_1 F8, ok4 F8, V_op X8 (fun Θ hT _ h1 => ⟨exT Θ q.1, ts_ex h1, fun Q' H' => S_ex F8 hT H'⟩) (fun M' v t' X' ht hv _ => ⟨_, rfl, EdP.er hE X' (by decide) hv ht⟩)⟩
      | ok i2 =>
        rw [ea] at hE
        intro M8 C8 _
        have F8 := C8.1.1
        refine ⟨rfl, 4, rf14_1 F8, ok4 F8, S_ex F8 C8.2.1.trp (fun M9 T9 k9 _ => ⟨_, rfl, ?_⟩)⟩
        exact hE.ok' (C8.tree k9 T9)
  · rw [kd] at z
    rw [if_neg z] at hE
    refine ⟨15, rf14_0 F, ok15 F, Z_fail hC (by decide) (fun M' X' _ => ⟨rfl, ?_⟩)⟩
    exact EdP.er (v := 0) hE X' (by decide) t1 (Nat.le_refl _)
end
