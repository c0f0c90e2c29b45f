def DX4_init_0 (h : Nat) (x0 : Nat) (x1 : Nat) (x2 : Nat) (M : Mem) (Q : Option Value → Mem → Prop) : Prop :=
  ∀ (q2 : Nat) (M1 : Mem), q2 = mN M → M1 = nwO M 9 14 →
  E h mdX7_init [.ref q2, .ref x1] M1 (fun r M3 => mE M1 M3 → r = none ∧ ok M3 x0 6 ∧ ∀ M5 : Mem, M5 = wR M3 x0 0 (some q2) →
  ∀ M6 : Mem, M6 = wR M5 x0 1 (some x2) →
  ¬ (16 : Int32) < 0 ∧ ((16 : Int32).toNatClampNeg ≤ 60000000) ∧ ∀ (q8 : Nat) (M7 : Mem), q8 = mN M6 → M7 = nwA M6 23 ((16 : Int32).toNatClampNeg) →
  ∀ M9 : Mem, M9 = wR M7 x0 2 (some q8) →
  Q none M9)
set_option maxRecDepth 20000 in
set_option maxHeartbeats 2000000 in
theorem VX4_init_0 {h : Nat} {x0 : Nat} {x1 : Nat} {x2 : Nat} {M : Mem} {Q : Option Value → Mem → Prop} (H : DX4_init_0 h x0 x1 x2 M Q) : T (h + 1) mdX4_init 0 [(0, .ref x0), (1, .ref x1), (2, .ref x2)] [] M Q := by
  unfold DX4_init_0 at H
  refine xt_aload_n (j := 0) dX4_init_0 rfl rfl ?_
  refine xt_objInit dX4_init_1 (oiX4_3 rfl) (by decide) (Nat.succ_le_succ (Nat.zero_le _)) ?_
  refine xt_aload_n (j := 0) dX4_init_4 rfl rfl ?_
  obtain ⟨M1, eM1⟩ : ∃ z, z = nwO M 9 14 := ⟨_, rfl⟩
  obtain ⟨q2, eq2⟩ : ∃ z, z = mN M := ⟨_, rfl⟩
  have H := H _ _ eq2 eM1
  refine xt_new dX4_init_5 (nlX4_9 rfl) ?_
  show T _ _ _ _ (.ref (mN M) :: [.ref x0]) (nwO M 9 14) _
  rw [← eM1, ← eq2]
  refine xt_dup dX4_init_8 rfl ?_
  refine xt_aload_n (j := 1) dX4_init_9 rfl rfl ?_
  refine xt_callI (h2 := h) (as := [.ref x1]) (st := [.ref q2, .ref x0]) dX4_init_10 (mlX4_11 rfl) rfl (by first | decide | (simp [Value.category]; done)) (Nat.le_refl _) H (fun r M3 HH hE => ?_)
  obtain ⟨hr, H⟩ := HH hE
  subst hr
  show T _ _ _ _ [.ref q2, .ref x0] _ _
  obtain ⟨ho4, H⟩ := H
  obtain ⟨M5, eM5⟩ : ∃ z, z = wR M3 x0 0 (some q2) := ⟨_, rfl⟩
  have H := H _ eM5
  refine xt_putR dX4_init_13 (flX4_14 rfl) ft_6_0 rfl ho4.1 ho4.2 ?_
  have ho4 : ok M5 x0 6 := by rw [eM5]; exact ho4
  rw [← eM5]
  refine xt_aload_n (j := 0) dX4_init_16 rfl rfl ?_
  refine xt_aload_n (j := 2) dX4_init_17 rfl rfl ?_
  obtain ⟨M6, eM6⟩ : ∃ z, z = wR M5 x0 1 (some x2) := ⟨_, rfl⟩
  have H := H _ eM6
  refine xt_putR dX4_init_18 (flX4_20 rfl) ft_6_1 rfl ho4.1 ho4.2 ?_
  have ho4 : ok M6 x0 6 := by rw [eM6]; exact ho4
  rw [← eM6]
  refine xt_aload_n (j := 0) dX4_init_21 rfl rfl ?_
  refine xt_bipush (v := 16) dX4_init_22 (by decide) ?_
  obtain ⟨hn, hy, H⟩ := H
  obtain ⟨M7, eM7⟩ : ∃ z, z = nwA M6 23 ((16 : Int32).toNatClampNeg) := ⟨_, rfl⟩
  obtain ⟨q8, eq8⟩ : ∃ z, z = mN M6 := ⟨_, rfl⟩
  have H := H _ _ eq8 eM7
  refine xt_newJ dX4_init_24 ac_J hn rfl hy ?_
  have ho4 : ok M7 x0 6 := by rw [eM7]; exact ok_nwA ho4
  rw [← eM7, ← eq8]
  obtain ⟨M9, eM9⟩ : ∃ z, z = wR M7 x0 2 (some q8) := ⟨_, rfl⟩
  have H := H _ eM9
  refine xt_putR dX4_init_26 (flX4_24 rfl) ft_6_2 rfl ho4.1 ho4.2 ?_
  have ho4 : ok M9 x0 6 := by rw [eM9]; exact ho4
  rw [← eM9]
  exact xt_return dX4_init_29 rfl H
theorem KX4_init {h : Nat} {x0 : Nat} {x1 : Nat} {x2 : Nat} {M : Mem} {Q : Option Value → Mem → Prop} (H : DX4_init_0 h x0 x1 x2 M Q) : E (h + 1) mdX4_init [.ref x0, .ref x1, .ref x2] M Q := E.of (by decide) (Nat.le_of_ble_eq_true rfl) (fun _ _ _ => trivial) (VX4_init_0 H)
def DX4_read_117 (h : Nat) (s0 : Option Nat) (M : Mem) (Q : Option Value → Mem → Prop) : Prop :=
  Q (some (va_rf s0)) M
set_option maxRecDepth 20000 in
set_option maxHeartbeats 2000000 in
theorem VX4_read_117 {h : Nat} {s0 : Option Nat} {M : Mem} {Q : Option Value → Mem → Prop} (H : DX4_read_117 h s0 M Q) : T (h + 1) mdX4_read 117 [] [va_rf s0] M Q := by
  unfold DX4_read_117 at H
  exact xt_areturnO dX4_read_117 rfl (Or.inl ⟨_, rfl⟩) H
def DX4_read_81 (h : Nat) (x0 : Nat) (M : Mem) (Q : Option Value → Mem → Prop) : Prop :=
  ok M x0 6 ∧ E h mdX4_findLateFault [.ref x0] M (fun r M2 => mE M M2 → r = none ∧ ∃ b3 : Nat, mR M2 x0 7 = some b3 ∧ ∃ b4 : Nat, mR M2 x0 1 = some b4 ∧ ok M2 b4 10 ∧ ok M2 b3 3 ∧ ∀ M7 : Mem, M7 = wI M2 b3 13 (mI M2 b4 10) →
  ∃ b8 : Nat, mR M7 x0 0 = some b8 ∧ ok M7 b8 9 ∧ (¬ (mI M7 b8 12) = 0 → DX4_read_117 h none M7 Q) ∧
  ((mI M7 b8 12) = 0 → ∃ b10 : Nat, mR M7 x0 7 = some b10 ∧ DX4_read_117 h (some b10) M7 Q))
set_option maxRecDepth 20000 in
set_option maxHeartbeats 2000000 in
theorem VX4_read_81 {h : Nat} {x0 : Nat} {M : Mem} {Q : Option Value → Mem → Prop} (H : DX4_read_81 h x0 M Q) : T (h + 1) mdX4_read 81 [(0, .ref x0)] [] M Q := by
  unfold DX4_read_81 at H
  refine xt_aload_n (j := 0) dX4_read_81 rfl rfl ?_
  obtain ⟨ho1, H⟩ := H
  refine xt_callV (h2 := h) (as := []) (st := []) dX4_read_82 (mlX4_72 rfl) rfl ho1.1 ⟨by rw [ho1.2]; rfl, by rw [ho1.2]; decide⟩ (by first | decide | (simp [Value.category]; done)) (Nat.le_refl _) H (fun r M2 HH hE => ?_)
  obtain ⟨hr, H⟩ := HH hE
  subst hr
  have ho1 := ok_E ho1 hE
  show T _ _ _ _ [] _ _
  refine xt_aload_n (j := 0) dX4_read_85 rfl rfl ?_
  obtain ⟨b3, hb, H⟩ := H
  refine xt_getR dX4_read_86 (flX4_31 rfl) ft_6_7 ho1.1 ho1.2 hb ?_
  refine xt_aload_n (j := 0) dX4_read_89 rfl rfl ?_
  obtain ⟨b4, hb, H⟩ := H
  refine xt_getR dX4_read_90 (flX4_20 rfl) ft_6_1 ho1.1 ho1.2 hb ?_
  obtain ⟨ho5, H⟩ := H
  refine xt_getI dX4_read_93 (flX4_75 rfl) ft_10_10 ho5.1 ho5.2 ?_
  obtain ⟨ho6, H⟩ := H
  obtain ⟨M7, eM7⟩ : ∃ z, z = wI M2 b3 13 (mI M2 b4 10) := ⟨_, rfl⟩
  have H := H _ eM7
  refine xt_putI dX4_read_96 (flX4_78 rfl) ty_3_13 rfl ho6.1 ho6.2 ?_
  have ho1 : ok M7 x0 6 := by rw [eM7]; exact ho1
  rw [← eM7]
  refine xt_aload_n (j := 0) dX4_read_99 rfl rfl ?_
  obtain ⟨b8, hb, H⟩ := H
  refine xt_getR dX4_read_100 (flX4_14 rfl) ft_6_0 ho1.1 ho1.2 hb ?_
  obtain ⟨ho9, H⟩ := H
  refine xt_getI dX4_read_103 (flX4_79 rfl) ft_9_12 ho9.1 ho9.2 ?_
  refine xt_if_ne (tgt := 116) dX4_read_106 (by decide) (fun hc => ?_) (fun hc => ?_)
  · have H := H.1 hc
    refine xt_null dX4_read_116 ?_
    exact xt_sub [] rfl (VX4_read_117 H)
  · have H := H.2 hc
    refine xt_aload_n (j := 0) dX4_read_109 rfl rfl ?_
    obtain ⟨b10, hb, H⟩ := H
    refine xt_getR dX4_read_110 (flX4_31 rfl) ft_6_7 ho1.1 ho1.2 hb ?_
    refine xt_goto (tgt := 117) dX4_read_113 (by decide) ?_
    exact xt_sub [] rfl (VX4_read_117 H)
def DX4_read_0 (h : Nat) (x0 : Nat) (x1 : Int32) (M : Mem) (Q : Option Value → Mem → Prop) : Prop :=
  ∀ (q2 : Nat) (M1 : Mem), q2 = mN M → M1 = nwO M 3 18 →
  E h mdX1_init [.ref q2] M1 (fun r M3 => mE M1 M3 → r = none ∧ ok M3 x0 6 ∧ ∀ M5 : Mem, M5 = wR M3 x0 7 (some q2) →
  ∀ M6 : Mem, M6 = wI M5 x0 3 0 →
  ∀ M7 : Mem, M7 = wI M6 x0 4 0 →
  ∀ M8 : Mem, M8 = wI M7 x0 5 0 →
  ∀ M9 : Mem, M9 = wI M8 x0 6 0 →
  ∃ b10 : Nat, mR M9 x0 1 = some b10 ∧ ok M9 b10 10 ∧ E h mdX8_begin [.ref b10] M9 (fun r M12 => mE M9 M12 → r = none ∧ ∃ b13 : Nat, mR M12 x0 0 = some b13 ∧ ok M12 b13 9 ∧ E h mdX7_begin [.ref b13, .int x1] M12 (fun r M15 => mE M12 M15 → r = none ∧ E h mdX4_readAllTold [.ref x0] M15 (fun r M16 => mE M15 M16 → r = none ∧ ∃ b17 : Nat, mR M16 x0 7 = some b17 ∧ E h mdX4_readSeq [.ref x0, .int 0] M16 (fun r M18 => mE M16 M18 → ∃ r19 : Int32, r = some (.int r19) ∧ ok M18 b17 3 ∧ ∀ M21 : Mem, M21 = wI M18 b17 16 r19 →
  ∃ b22 : Nat, mR M21 x0 0 = some b22 ∧ ok M21 b22 9 ∧ ((mI M21 b22 9) = 1 → DX4_read_81 h x0 M21 Q) ∧
  (¬ ((mI M21 b22 9) = 1) → ∃ b24 : Nat, mR M21 x0 0 = some b24 ∧ ok M21 b24 9 ∧ E h mdX7_fail [.ref b24, .int 2] M21 (fun r M26 => mE M21 M26 → r = none ∧ DX4_read_81 h x0 M26 Q)))))))
set_option maxRecDepth 20000 in
set_option maxHeartbeats 2000000 in
theorem VX4_read_0 {h : Nat} {x0 : Nat} {x1 : Int32} {M : Mem} {Q : Option Value → Mem → Prop} (H : DX4_read_0 h x0 x1 M Q) : T (h + 1) mdX4_read 0 [(0, .ref x0), (1, .int x1)] [] M Q := by
  unfold DX4_read_0 at H
  refine xt_aload_n (j := 0) dX4_read_0 rfl rfl ?_
  obtain ⟨M1, eM1⟩ : ∃ z, z = nwO M 3 18 := ⟨_, rfl⟩
  obtain ⟨q2, eq2⟩ : ∃ z, z = mN M := ⟨_, rfl⟩
  have H := H _ _ eq2 eM1
  refine xt_new dX4_read_1 (nlX4_28 rfl) ?_
  show T _ _ _ _ (.ref (mN M) :: [.ref x0]) (nwO M 3 18) _
  rw [← eM1, ← eq2]
  refine xt_dup dX4_read_4 rfl ?_
  refine xt_callN (h2 := h) (as := []) (st := [.ref q2, .ref x0]) dX4_read_5 (mlX4_30 rfl) rfl (by first | decide | (simp [Value.category]; done)) (Nat.le_refl _) H (fun r M3 HH hE => ?_)
  obtain ⟨hr, H⟩ := HH hE
  subst hr
  show T _ _ _ _ [.ref q2, .ref x0] _ _
  obtain ⟨ho4, H⟩ := H
  obtain ⟨M5, eM5⟩ : ∃ z, z = wR M3 x0 7 (some q2) := ⟨_, rfl⟩
  have H := H _ eM5
  refine xt_putR dX4_read_8 (flX4_31 rfl) ft_6_7 rfl ho4.1 ho4.2 ?_
  have ho4 : ok M5 x0 6 := by rw [eM5]; exact ho4
  rw [← eM5]
  refine xt_aload_n (j := 0) dX4_read_11 rfl rfl ?_
  refine xt_iconst (v := 0) dX4_read_12 (by decide) ?_
  obtain ⟨M6, eM6⟩ : ∃ z, z = wI M5 x0 3 0 := ⟨_, rfl⟩
  have H := H _ eM6
  refine xt_putI dX4_read_13 (flX4_35 rfl) ty_6_3 rfl ho4.1 ho4.2 ?_
  have ho4 : ok M6 x0 6 := by rw [eM6]; exact ho4
  rw [← eM6]
  refine xt_aload_n (j := 0) dX4_read_16 rfl rfl ?_
  refine xt_iconst (v := 0) dX4_read_17 (by decide) ?_
  obtain ⟨M7, eM7⟩ : ∃ z, z = wI M6 x0 4 0 := ⟨_, rfl⟩
  have H := H _ eM7
  refine xt_putI dX4_read_18 (flX4_39 rfl) ty_6_4 rfl ho4.1 ho4.2 ?_
  have ho4 : ok M7 x0 6 := by rw [eM7]; exact ho4
  rw [← eM7]
  refine xt_aload_n (j := 0) dX4_read_21 rfl rfl ?_
  refine xt_iconst (v := 0) dX4_read_22 (by decide) ?_
  obtain ⟨M8, eM8⟩ : ∃ z, z = wI M7 x0 5 0 := ⟨_, rfl⟩
  have H := H _ eM8
  refine xt_putI dX4_read_23 (flX4_42 rfl) ty_6_5 rfl ho4.1 ho4.2 ?_
  have ho4 : ok M8 x0 6 := by rw [eM8]; exact ho4
  rw [← eM8]
  refine xt_aload_n (j := 0) dX4_read_26 rfl rfl ?_
  refine xt_iconst (v := 0) dX4_read_27 (by decide) ?_
  obtain ⟨M9, eM9⟩ : ∃ z, z = wI M8 x0 6 0 := ⟨_, rfl⟩
  have H := H _ eM9
  refine xt_putI dX4_read_28 (flX4_45 rfl) ty_6_6 rfl ho4.1 ho4.2 ?_
  have ho4 : ok M9 x0 6 := by rw [eM9]; exact ho4
  rw [← eM9]
  refine xt_aload_n (j := 0) dX4_read_31 rfl rfl ?_
  obtain ⟨b10, hb, H⟩ := H
  refine xt_getR dX4_read_32 (flX4_20 rfl) ft_6_1 ho4.1 ho4.2 hb ?_
  obtain ⟨ho11, H⟩ := H
  refine xt_callV (h2 := h) (as := []) (st := []) dX4_read_35 (mlX4_48 rfl) rfl ho11.1 ⟨by rw [ho11.2]; rfl, by rw [ho11.2]; decide⟩ (by first | decide | (simp [Value.category]; done)) (Nat.le_refl _) H (fun r M12 HH hE => ?_)
  obtain ⟨hr, H⟩ := HH hE
  subst hr
  have ho4 := ok_E ho4 hE
  show T _ _ _ _ [] _ _
  refine xt_aload_n (j := 0) dX4_read_38 rfl rfl ?_
  obtain ⟨b13, hb, H⟩ := H
  refine xt_getR dX4_read_39 (flX4_14 rfl) ft_6_0 ho4.1 ho4.2 hb ?_
  refine xt_iload_n (j := 1) dX4_read_42 rfl rfl ?_
  obtain ⟨ho14, H⟩ := H
  refine xt_callV (h2 := h) (as := [.int x1]) (st := []) dX4_read_43 (mlX4_53 rfl) rfl ho14.1 ⟨by rw [ho14.2]; rfl, by rw [ho14.2]; decide⟩ (by first | decide | (simp [Value.category]; done)) (Nat.le_refl _) H (fun r M15 HH hE => ?_)
  obtain ⟨hr, H⟩ := HH hE
  subst hr
  have ho4 := ok_E ho4 hE
  show T _ _ _ _ [] _ _
  refine xt_aload_n (j := 0) dX4_read_46 rfl rfl ?_
  refine xt_callV (h2 := h) (as := []) (st := []) dX4_read_47 (mlX4_56 rfl) rfl ho4.1 ⟨by rw [ho4.2]; rfl, by rw [ho4.2]; decide⟩ (by first | decide | (simp [Value.category]; done)) (Nat.le_refl _) H (fun r M16 HH hE => ?_)
  obtain ⟨hr, H⟩ := HH hE
  subst hr
  have ho4 := ok_E ho4 hE
  show T _ _ _ _ [] _ _
  refine xt_aload_n (j := 0) dX4_read_50 rfl rfl ?_
  obtain ⟨b17, hb, H⟩ := H
  refine xt_getR dX4_read_51 (flX4_31 rfl) ft_6_7 ho4.1 ho4.2 hb ?_
  refine xt_aload_n (j := 0) dX4_read_54 rfl rfl ?_
  refine xt_iconst (v := 0) dX4_read_55 (by decide) ?_
  refine xt_callV (h2 := h) (as := [.int 0]) (st := [.ref b17]) dX4_read_56 (mlX4_59 rfl) rfl ho4.1 ⟨by rw [ho4.2]; rfl, by rw [ho4.2]; decide⟩ (by first | decide | (simp [Value.category]; done)) (Nat.le_refl _) H (fun r M18 HH hE => ?_)
  obtain ⟨r19, hr, H⟩ := HH hE
  subst hr
  have ho4 := ok_E ho4 hE
  show T _ _ _ _ [.int r19, .ref b17] _ _
  obtain ⟨ho20, H⟩ := H
  obtain ⟨M21, eM21⟩ : ∃ z, z = wI M18 b17 16 r19 := ⟨_, rfl⟩
  have H := H _ eM21
  refine xt_putI dX4_read_59 (flX4_63 rfl) ty_3_16 rfl ho20.1 ho20.2 ?_
  have ho4 : ok M21 x0 6 := by rw [eM21]; exact ho4
  rw [← eM21]
  refine xt_aload_n (j := 0) dX4_read_62 rfl rfl ?_
  obtain ⟨b22, hb, H⟩ := H
  refine xt_getR dX4_read_63 (flX4_14 rfl) ft_6_0 ho4.1 ho4.2 hb ?_
  obtain ⟨ho23, H⟩ := H
  refine xt_getI dX4_read_66 (flX4_66 rfl) ft_9_9 ho23.1 ho23.2 ?_
  refine xt_iconst (v := 1) dX4_read_69 (by decide) ?_
  refine xt_icmp_eq (tgt := 81) dX4_read_70 (by decide) (fun hc => ?_) (fun hc => ?_)
  · have H := H.1 hc
    exact xt_sub [0] rfl (VX4_read_81 H)
  · have H := H.2 hc
    refine xt_aload_n (j := 0) dX4_read_73 rfl rfl ?_
    obtain ⟨b24, hb, H⟩ := H
    refine xt_getR dX4_read_74 (flX4_14 rfl) ft_6_0 ho4.1 ho4.2 hb ?_
    refine xt_iconst (v := 2) dX4_read_77 (by decide) ?_
    obtain ⟨ho25, H⟩ := H
    refine xt_callV (h2 := h) (as := [.int 2]) (st := []) dX4_read_78 (mlX4_69 rfl) rfl ho25.1 ⟨by rw [ho25.2]; rfl, by rw [ho25.2]; decide⟩ (by first | decide | (simp [Value.category]; done)) (Nat.le_refl _) H (fun r M26 HH hE => ?_)
    obtain ⟨hr, H⟩ := HH hE
    subst hr
    have ho4 := ok_E ho4 hE
    show T _ _ _ _ [] _ _
    exact xt_sub [0] rfl (VX4_read_81 H)
theorem KX4_read {h : Nat} {x0 : Nat} {x1 : Int32} {M : Mem} {Q : Option Value → Mem → Prop} (H : DX4_read_0 h x0 x1 M Q) : E (h + 1) mdX4_read [.ref x0, .int x1] M Q := E.of (by decide) (Nat.le_of_ble_eq_true rfl) (fun _ _ _ => trivial) (VX4_read_0 H)
def DX4_findLateFault_69 (h : Nat) (M : Mem) (Q : Option Value → Mem → Prop) : Prop :=
  Q none M
set_option maxRecDepth 20000 in
set_option maxHeartbeats 2000000 in
theorem VX4_findLateFault_69 {h : Nat} {M : Mem} {Q : Option Value → Mem → Prop} (H : DX4_findLateFault_69 h  M Q) : T (h + 1) mdX4_findLateFault 69 [] [] M Q := by
  unfold DX4_findLateFault_69 at H
  exact xt_return dX4_findLateFault_69 rfl H
def DX4_findLateFault_63 (h : Nat) (x0 : Nat) (x1 : Int32) (M : Mem) (Q : Option Value → Mem → Prop) : Prop :=
  T (h + 1) mdX4_findLateFault 2 [(0, .ref x0), (1, .int (x1 + 1))] [] M Q
set_option maxRecDepth 20000 in
set_option maxHeartbeats 2000000 in
theorem VX4_findLateFault_63 {h : Nat} {x0 : Nat} {x1 : Int32} {M : Mem} {Q : Option Value → Mem → Prop} (H : DX4_findLateFault_63 h x0 x1 M Q) : T (h + 1) mdX4_findLateFault 63 [(0, .ref x0), (1, .int x1)] [] M Q := by
  unfold DX4_findLateFault_63 at H
  refine xt_iinc (j := 1) (v := x1 + 1) (lv' := [(1, .int (x1 + 1)), (0, .ref x0)]) dX4_findLateFault_63 rfl (by rfl) (by decide) rfl ?_
  refine xt_goto (tgt := 2) dX4_findLateFault_66 (by decide) ?_
  exact xt_sub (lv' := [(0, .ref x0), (1, .int (x1 + 1))]) [1, 0] rfl H
def DX4_findLateFault_2 (h : Nat) (x0 : Nat) (x1 : Int32) (M : Mem) (Q : Option Value → Mem → Prop) : Prop :=
  ok M x0 6 ∧ ∃ b2 : Nat, mR M x0 7 = some b2 ∧ ok M b2 3 ∧ ∃ b4 : Nat, mR M b2 6 = some b4 ∧ ok M b4 1 ∧ E h mdJx4a65c_size_8abf5 [.ref b4] M (fun r M6 => mE M M6 → ∃ r7 : Int32, r = some (.int r7) ∧ (r7 ≤ x1 → DX4_findLateFault_69 h  M6 Q) ∧
  (¬ (r7 ≤ x1) → ∃ b8 : Nat, mR M6 x0 0 = some b8 ∧ ok M6 b8 9 ∧ (¬ (mI M6 b8 12) = 0 → DX4_findLateFault_69 h  M6 Q) ∧
  ((mI M6 b8 12) = 0 → ∃ b10 : Nat, mR M6 x0 7 = some b10 ∧ ok M6 b10 3 ∧ ∃ b12 : Nat, mR M6 b10 6 = some b12 ∧ ok M6 b12 1 ∧ E h mdJx4a65c_get_915e3 [.ref b12, .int x1] M6 (fun r M14 => mE M6 M14 → ∃ b15 : Nat, r = some (.ref b15) ∧ ok M14 b15 5 ∧ ((mI M14 b15 2) = 0 → DX4_findLateFault_63 h x0 x1 M14 Q) ∧
  (¬ ((mI M14 b15 2) = 0) → ∃ b17 : Nat, mR M14 x0 0 = some b17 ∧ ok M14 b17 9 ∧ E h mdX7_failAt [.ref b17, .int (mI M14 b15 2), .int (mI M14 b15 0)] M14 (fun r M19 => mE M14 M19 → r = none ∧ DX4_findLateFault_63 h x0 x1 M19 Q))))))
set_option maxRecDepth 20000 in
set_option maxHeartbeats 2000000 in
theorem VX4_findLateFault_2 {h : Nat} {x0 : Nat} {x1 : Int32} {M : Mem} {Q : Option Value → Mem → Prop} (H : DX4_findLateFault_2 h x0 x1 M Q) : T (h + 1) mdX4_findLateFault 2 [(0, .ref x0), (1, .int x1)] [] M Q := by
  unfold DX4_findLateFault_2 at H
  refine xt_iload_n (j := 1) dX4_findLateFault_2 rfl rfl ?_
  refine xt_aload_n (j := 0) dX4_findLateFault_3 rfl rfl ?_
  obtain ⟨ho1, H⟩ := H
  obtain ⟨b2, hb, H⟩ := H
  refine xt_getR dX4_findLateFault_4 (flX4_31 rfl) ft_6_7 ho1.1 ho1.2 hb ?_
  obtain ⟨ho3, H⟩ := H
  obtain ⟨b4, hb, H⟩ := H
  refine xt_getR dX4_findLateFault_7 (flX4_82 rfl) ft_3_6 ho3.1 ho3.2 hb ?_
  obtain ⟨ho5, H⟩ := H
  refine xt_callV (h2 := h) (as := []) (st := [.int x1]) dX4_findLateFault_10 (mlX4_86 rfl) rfl ho5.1 ⟨by rw [ho5.2]; rfl, by rw [ho5.2]; decide⟩ (by first | decide | (simp [Value.category]; done)) (Nat.le_refl _) H (fun r M6 HH hE => ?_)
  obtain ⟨r7, hr, H⟩ := HH hE
  subst hr
  have ho1 := ok_E ho1 hE
  show T _ _ _ _ [.int r7, .int x1] _ _
  refine xt_icmp_ge (tgt := 69) dX4_findLateFault_13 (by decide) (fun hc => ?_) (fun hc => ?_)
  · have H := H.1 hc
    exact xt_sub [] rfl (VX4_findLateFault_69 H)
  · have H := H.2 hc
    refine xt_aload_n (j := 0) dX4_findLateFault_16 rfl rfl ?_
    obtain ⟨b8, hb, H⟩ := H
    refine xt_getR dX4_findLateFault_17 (flX4_14 rfl) ft_6_0 ho1.1 ho1.2 hb ?_
    obtain ⟨ho9, H⟩ := H
    refine xt_getI dX4_findLateFault_20 (flX4_79 rfl) ft_9_12 ho9.1 ho9.2 ?_
    refine xt_if_ne (tgt := 69) dX4_findLateFault_23 (by decide) (fun hc => ?_) (fun hc => ?_)
    · have H := H.1 hc
      exact xt_sub [] rfl (VX4_findLateFault_69 H)
    · have H := H.2 hc
      refine xt_aload_n (j := 0) dX4_findLateFault_26 rfl rfl ?_
      obtain ⟨b10, hb, H⟩ := H
      refine xt_getR dX4_findLateFault_27 (flX4_31 rfl) ft_6_7 ho1.1 ho1.2 hb ?_
      obtain ⟨ho11, H⟩ := H
      obtain ⟨b12, hb, H⟩ := H
      refine xt_getR dX4_findLateFault_30 (flX4_82 rfl) ft_3_6 ho11.1 ho11.2 hb ?_
      refine xt_iload_n (j := 1) dX4_findLateFault_33 rfl rfl ?_
      obtain ⟨ho13, H⟩ := H
      refine xt_callV (h2 := h) (as := [.int x1]) (st := []) dX4_findLateFault_34 (mlX4_92 rfl) rfl ho13.1 ⟨by rw [ho13.2]; rfl, by rw [ho13.2]; decide⟩ (by first | decide | (simp [Value.category]; done)) (Nat.le_refl _) H (fun r M14 HH hE => ?_)
      obtain ⟨b15, hr, H⟩ := HH hE
      subst hr
      have ho1 := ok_E ho1 hE
      show T _ _ _ _ [.ref b15] _ _
      obtain ⟨ho16, H⟩ := H
      refine xt_cast dX4_findLateFault_37 (ccX4_96 rfl) ho16.1 ho16.2 ?_
      refine xt_astore_n (lv' := [(2, .ref b15), (0, .ref x0), (1, .int x1)]) dX4_findLateFault_40 rfl (by decide) rfl ?_
      refine xt_aload_n (j := 0) dX4_findLateFault_41 rfl rfl ?_
      refine xt_getI dX4_findLateFault_42 (flX4_98 rfl) ft_5_2 ho16.1 ho16.2 ?_
      refine xt_if_eq (tgt := 63) dX4_findLateFault_45 (by decide) (fun hc => ?_) (fun hc => ?_)
      · have H := H.1 hc
        exact xt_sub [1, 2] rfl (VX4_findLateFault_63 H)
      · have H := H.2 hc
        refine xt_aload_n (j := 1) dX4_findLateFault_48 rfl rfl ?_
        obtain ⟨b17, hb, H⟩ := H
        refine xt_getR dX4_findLateFault_49 (flX4_14 rfl) ft_6_0 ho1.1 ho1.2 hb ?_
        refine xt_aload_n (j := 0) dX4_findLateFault_52 rfl rfl ?_
        refine xt_getI dX4_findLateFault_53 (flX4_98 rfl) ft_5_2 ho16.1 ho16.2 ?_
        refine xt_aload_n (j := 0) dX4_findLateFault_56 rfl rfl ?_
        refine xt_getI dX4_findLateFault_57 (flX4_101 rfl) ft_5_0 ho16.1 ho16.2 ?_
        obtain ⟨ho18, H⟩ := H
        refine xt_callV (h2 := h) (as := [.int (mI M14 b15 2), .int (mI M14 b15 0)]) (st := []) dX4_findLateFault_60 (mlX4_104 rfl) rfl ho18.1 ⟨by rw [ho18.2]; rfl, by rw [ho18.2]; decide⟩ (by first | decide | (simp [Value.category]; done)) (Nat.le_refl _) H (fun r M19 HH hE => ?_)
        obtain ⟨hr, H⟩ := HH hE
        subst hr
        have ho1 := ok_E ho1 hE
        have ho16 := ok_E ho16 hE
        show T _ _ _ _ [] _ _
        exact xt_sub [1, 2] rfl (VX4_findLateFault_63 H)
def DX4_findLateFault_0 (h : Nat) (x0 : Nat) (M : Mem) (Q : Option Value → Mem → Prop) : Prop :=
  T (h + 1) mdX4_findLateFault 2 [(0, .ref x0), (1, .int 0)] [] M Q
set_option maxRecDepth 20000 in
set_option maxHeartbeats 2000000 in
theorem VX4_findLateFault_0 {h : Nat} {x0 : Nat} {M : Mem} {Q : Option Value → Mem → Prop} (H : DX4_findLateFault_0 h x0 M Q) : T (h + 1) mdX4_findLateFault 0 [(0, .ref x0)] [] M Q := by
  unfold DX4_findLateFault_0 at H
  refine xt_iconst (v := 0) dX4_findLateFault_0 (by decide) ?_
  refine xt_istore_n (lv' := [(1, .int 0), (0, .ref x0)]) dX4_findLateFault_1 rfl (by decide) rfl ?_
  exact xt_sub (lv' := [(0, .ref x0), (1, .int 0)]) [1, 0] rfl H
theorem KX4_findLateFault {h : Nat} {x0 : Nat} {M : Mem} {Q : Option Value → Mem → Prop} (H : DX4_findLateFault_0 h x0 M Q) : E (h + 1) mdX4_findLateFault [.ref x0] M Q := E.of (by decide) (Nat.le_of_ble_eq_true rfl) (fun _ _ _ => trivial) (VX4_findLateFault_0 H)
def DX4_readAllTold_57 (h : Nat) (x0 : Nat) (x1 : Int32) (M : Mem) (Q : Option Value → Mem → Prop) : Prop :=
  ok M x0 6 ∧ ∃ b2 : Nat, mR M x0 0 = some b2 ∧ ok M b2 9 ∧ E h mdX7_expect [.ref b2, .int 13] M (fun r M4 => mE M M4 → r = none ∧ T (h + 1) mdX4_readAllTold 2 [(0, .ref x0), (1, .int (x1 + 1))] [] M4 Q)
set_option maxRecDepth 20000 in
set_option maxHeartbeats 2000000 in
theorem VX4_readAllTold_57 {h : Nat} {x0 : Nat} {x1 : Int32} {M : Mem} {Q : Option Value → Mem → Prop} (H : DX4_readAllTold_57 h x0 x1 M Q) : T (h + 1) mdX4_readAllTold 57 [(0, .ref x0), (1, .int x1)] [] M Q := by
  unfold DX4_readAllTold_57 at H
  refine xt_aload_n (j := 0) dX4_readAllTold_57 rfl rfl ?_
  obtain ⟨ho1, H⟩ := H
  obtain ⟨b2, hb, H⟩ := H
  refine xt_getR dX4_readAllTold_58 (flX4_14 rfl) ft_6_0 ho1.1 ho1.2 hb ?_
  refine xt_bipush (v := 13) dX4_readAllTold_61 (by decide) ?_
  obtain ⟨ho3, H⟩ := H
  refine xt_callV (h2 := h) (as := [.int 13]) (st := []) dX4_readAllTold_63 (mlX4_114 rfl) rfl ho3.1 ⟨by rw [ho3.2]; rfl, by rw [ho3.2]; decide⟩ (by first | decide | (simp [Value.category]; done)) (Nat.le_refl _) H (fun r M4 HH hE => ?_)
  obtain ⟨hr, H⟩ := HH hE
  subst hr
  have ho1 := ok_E ho1 hE
  show T _ _ _ _ [] _ _
  refine xt_iinc (j := 1) (v := x1 + 1) (lv' := [(1, .int (x1 + 1)), (0, .ref x0)]) dX4_readAllTold_66 rfl (by rfl) (by decide) rfl ?_
  refine xt_goto (tgt := 2) dX4_readAllTold_69 (by decide) ?_
  exact xt_sub (lv' := [(0, .ref x0), (1, .int (x1 + 1))]) [1, 0] rfl H
def DX4_readAllTold_48 (h : Nat) (x0 : Nat) (x1 : Int32) (x2 : Int32) (M : Mem) (Q : Option Value → Mem → Prop) : Prop :=
  ok M x0 6 ∧ E h mdX4_readSignal [.ref x0, .int x2] M (fun r M2 => mE M M2 → r = none ∧ DX4_readAllTold_57 h x0 x1 M2 Q)
set_option maxRecDepth 20000 in
set_option maxHeartbeats 2000000 in
theorem VX4_readAllTold_48 {h : Nat} {x0 : Nat} {x1 : Int32} {x2 : Int32} {M : Mem} {Q : Option Value → Mem → Prop} (H : DX4_readAllTold_48 h x0 x1 x2 M Q) : T (h + 1) mdX4_readAllTold 48 [(0, .ref x0), (1, .int x1), (2, .int x2)] [] M Q := by
  unfold DX4_readAllTold_48 at H
  refine xt_aload_n (j := 0) dX4_readAllTold_48 rfl rfl ?_
  refine xt_iload_n (j := 2) dX4_readAllTold_49 rfl rfl ?_
  obtain ⟨ho1, H⟩ := H
  refine xt_callV (h2 := h) (as := [.int x2]) (st := []) dX4_readAllTold_50 (mlX4_111 rfl) rfl ho1.1 ⟨by rw [ho1.2]; rfl, by rw [ho1.2]; decide⟩ (by first | decide | (simp [Value.category]; done)) (Nat.le_refl _) H (fun r M2 HH hE => ?_)
  obtain ⟨hr, H⟩ := HH hE
  subst hr
  have ho1 := ok_E ho1 hE
  show T _ _ _ _ [] _ _
  refine xt_goto (tgt := 57) dX4_readAllTold_53 (by decide) ?_
  exact xt_sub [0, 1] rfl (VX4_readAllTold_57 H)
def DX4_readAllTold_2 (h : Nat) (x0 : Nat) (x1 : Int32) (M : Mem) (Q : Option Value → Mem → Prop) : Prop :=
  (800 ≤ x1 → Q none M) ∧
  (¬ (800 ≤ x1) → ok M x0 6 ∧ ∃ b2 : Nat, mR M x0 0 = some b2 ∧ ok M b2 9 ∧ (¬ (mI M b2 9) = 36 → ((mI M b2 9) = 30 → DX4_readAllTold_48 h x0 x1 (mI M b2 9) M Q) ∧
  (¬ ((mI M b2 9) = 30) → ((mI M b2 9) = 31 → DX4_readAllTold_48 h x0 x1 (mI M b2 9) M Q) ∧
  (¬ ((mI M b2 9) = 31) → (¬ (mI M b2 9) = 32 → Q none M) ∧
  ((mI M b2 9) = 32 → DX4_readAllTold_48 h x0 x1 (mI M b2 9) M Q)))) ∧
  ((mI M b2 9) = 36 → E h mdX4_readVariable [.ref x0] M (fun r M4 => mE M M4 → r = none ∧ DX4_readAllTold_57 h x0 x1 M4 Q)))
set_option maxRecDepth 20000 in
set_option maxHeartbeats 2000000 in
theorem VX4_readAllTold_2 {h : Nat} {x0 : Nat} {x1 : Int32} {M : Mem} {Q : Option Value → Mem → Prop} (H : DX4_readAllTold_2 h x0 x1 M Q) : T (h + 1) mdX4_readAllTold 2 [(0, .ref x0), (1, .int x1)] [] M Q := by
  unfold DX4_readAllTold_2 at H
  refine xt_iload_n (j := 1) dX4_readAllTold_2 rfl rfl ?_
  refine xt_sipush (v := 800) dX4_readAllTold_3 (by decide) ?_
  refine xt_icmp_ge (tgt := 72) dX4_readAllTold_6 (by decide) (fun hc => ?_) (fun hc => ?_)
  · have H := H.1 hc
    exact xt_return dX4_readAllTold_72 rfl H
  · have H := H.2 hc
    refine xt_aload_n (j := 0) dX4_readAllTold_9 rfl rfl ?_
    obtain ⟨ho1, H⟩ := H
    obtain ⟨b2, hb, H⟩ := H
    refine xt_getR dX4_readAllTold_10 (flX4_14 rfl) ft_6_0 ho1.1 ho1.2 hb ?_
    obtain ⟨ho3, H⟩ := H
    refine xt_getI dX4_readAllTold_13 (flX4_66 rfl) ft_9_9 ho3.1 ho3.2 ?_
    refine xt_istore_n (lv' := [(2, .int (mI M b2 9)), (0, .ref x0), (1, .int x1)]) dX4_readAllTold_16 rfl (by decide) rfl ?_
    refine xt_iload_n (j := 0) dX4_readAllTold_17 rfl rfl ?_
    refine xt_bipush (v := 36) dX4_readAllTold_18 (by decide) ?_
    refine xt_icmp_ne (tgt := 30) dX4_readAllTold_20 (by decide) (fun hc => ?_) (fun hc => ?_)
    · have H := H.1 hc
      refine xt_iload_n (j := 0) dX4_readAllTold_30 rfl rfl ?_
      refine xt_bipush (v := 30) dX4_readAllTold_31 (by decide) ?_
      refine xt_icmp_eq (tgt := 48) dX4_readAllTold_33 (by decide) (fun hc => ?_) (fun hc => ?_)
      · have H := H.1 hc
        exact xt_sub [1, 2, 0] rfl (VX4_readAllTold_48 H)
      · have H := H.2 hc
        refine xt_iload_n (j := 0) dX4_readAllTold_36 rfl rfl ?_
        refine xt_bipush (v := 31) dX4_readAllTold_37 (by decide) ?_
        refine xt_icmp_eq (tgt := 48) dX4_readAllTold_39 (by decide) (fun hc => ?_) (fun hc => ?_)
        · have H := H.1 hc
          exact xt_sub [1, 2, 0] rfl (VX4_readAllTold_48 H)
        · have H := H.2 hc
          refine xt_iload_n (j := 0) dX4_readAllTold_42 rfl rfl ?_
          refine xt_bipush (v := 32) dX4_readAllTold_43 (by decide) ?_
          refine xt_icmp_ne (tgt := 56) dX4_readAllTold_45 (by decide) (fun hc => ?_) (fun hc => ?_)
          · have H := H.1 hc
            exact xt_return dX4_readAllTold_56 rfl H
          · have H := H.2 hc
            exact xt_sub [1, 2, 0] rfl (VX4_readAllTold_48 H)
    · have H := H.2 hc
      refine xt_aload_n (j := 1) dX4_readAllTold_23 rfl rfl ?_
      refine xt_callV (h2 := h) (as := []) (st := []) dX4_readAllTold_24 (mlX4_108 rfl) rfl ho1.1 ⟨by rw [ho1.2]; rfl, by rw [ho1.2]; decide⟩ (by first | decide | (simp [Value.category]; done)) (Nat.le_refl _) H (fun r M4 HH hE => ?_)
      obtain ⟨hr, H⟩ := HH hE
      subst hr
      have ho1 := ok_E ho1 hE
      show T _ _ _ _ [] _ _
      refine xt_goto (tgt := 57) dX4_readAllTold_27 (by decide) ?_
      exact xt_sub [1, 2] rfl (VX4_readAllTold_57 H)
def DX4_readAllTold_0 (h : Nat) (x0 : Nat) (M : Mem) (Q : Option Value → Mem → Prop) : Prop :=
  T (h + 1) mdX4_readAllTold 2 [(0, .ref x0), (1, .int 0)] [] M Q
set_option maxRecDepth 20000 in
set_option maxHeartbeats 2000000 in
theorem VX4_readAllTold_0 {h : Nat} {x0 : Nat} {M : Mem} {Q : Option Value → Mem → Prop} (H : DX4_readAllTold_0 h x0 M Q) : T (h + 1) mdX4_readAllTold 0 [(0, .ref x0)] [] M Q := by
  unfold DX4_readAllTold_0 at H
  refine xt_iconst (v := 0) dX4_readAllTold_0 (by decide) ?_
  refine xt_istore_n (lv' := [(1, .int 0), (0, .ref x0)]) dX4_readAllTold_1 rfl (by decide) rfl ?_
  exact xt_sub (lv' := [(0, .ref x0), (1, .int 0)]) [1, 0] rfl H
theorem KX4_readAllTold {h : Nat} {x0 : Nat} {M : Mem} {Q : Option Value → Mem → Prop} (H : DX4_readAllTold_0 h x0 M Q) : E (h + 1) mdX4_readAllTold [.ref x0] M Q := E.of (by decide) (Nat.le_of_ble_eq_true rfl) (fun _ _ _ => trivial) (VX4_readAllTold_0 H)
def DX4_readSignal_119 (h : Nat) (M : Mem) (Q : Option Value → Mem → Prop) : Prop :=
  Q none M
set_option maxRecDepth 20000 in
set_option maxHeartbeats 2000000 in
theorem VX4_readSignal_119 {h : Nat} {M : Mem} {Q : Option Value → Mem → Prop} (H : DX4_readSignal_119 h  M Q) : T (h + 1) mdX4_readSignal 119 [] [] M Q := by
  unfold DX4_readSignal_119 at H
  exact xt_return dX4_readSignal_119 rfl H
def DX4_readSignal_91 (h : Nat) (x0 : Nat) (x2 : Int32) (x3 : Int32) (M : Mem) (Q : Option Value → Mem → Prop) : Prop :=
  ok M x0 6 ∧ ∃ b2 : Nat, mR M x0 7 = some b2 ∧ ok M b2 3 ∧ ∃ b4 : Nat, mR M b2 2 = some b4 ∧ ok M b4 21 ∧ vp_in x2 (mL M b4) ∧ ∀ M6 : Mem, M6 = wAI M b4 (x2 : Int32).toNatClampNeg x3 →
  ∃ b7 : Nat, mR M6 x0 0 = some b7 ∧ ok M6 b7 9 ∧ E h mdX7_advance [.ref b7] M6 (fun r M9 => mE M6 M9 → r = none ∧ DX4_readSignal_119 h  M9 Q)
set_option maxRecDepth 20000 in
set_option maxHeartbeats 2000000 in
theorem VX4_readSignal_91 {h : Nat} {x0 : Nat} {x2 : Int32} {x3 : Int32} {M : Mem} {Q : Option Value → Mem → Prop} (H : DX4_readSignal_91 h x0 x2 x3 M Q) : T (h + 1) mdX4_readSignal 91 [(0, .ref x0), (2, .int x2), (3, .int x3)] [] M Q := by
  unfold DX4_readSignal_91 at H
  refine xt_aload_n (j := 0) dX4_readSignal_91 rfl rfl ?_
  obtain ⟨ho1, H⟩ := H
  obtain ⟨b2, hb, H⟩ := H
  refine xt_getR dX4_readSignal_92 (flX4_31 rfl) ft_6_7 ho1.1 ho1.2 hb ?_
  obtain ⟨ho3, H⟩ := H
  obtain ⟨b4, hb, H⟩ := H
  refine xt_getR dX4_readSignal_95 (flX4_138 rfl) ft_3_2 ho3.1 ho3.2 hb ?_
  refine xt_iload_n (j := 1) dX4_readSignal_98 rfl rfl ?_
  refine xt_iload_n (j := 2) dX4_readSignal_99 rfl rfl ?_
  obtain ⟨ho5, H⟩ := H
  obtain ⟨hi, H⟩ := H
  obtain ⟨M6, eM6⟩ : ∃ z, z = wAI M b4 (x2 : Int32).toNatClampNeg x3 := ⟨_, rfl⟩
  have H := H _ eM6
  refine xt_iast dX4_readSignal_100 ho5.1 ho5.2 hi ?_
  have ho1 : ok M6 x0 6 := by rw [eM6]; exact ho1
  rw [← eM6]
  refine xt_aload_n (j := 0) dX4_readSignal_101 rfl rfl ?_
  obtain ⟨b7, hb, H⟩ := H
  refine xt_getR dX4_readSignal_102 (flX4_14 rfl) ft_6_0 ho1.1 ho1.2 hb ?_
  obtain ⟨ho8, H⟩ := H
  refine xt_callV (h2 := h) (as := []) (st := []) dX4_readSignal_105 (mlX4_117 rfl) rfl ho8.1 ⟨by rw [ho8.2]; rfl, by rw [ho8.2]; decide⟩ (by first | decide | (simp [Value.category]; done)) (Nat.le_refl _) H (fun r M9 HH hE => ?_)
  obtain ⟨hr, H⟩ := HH hE
  subst hr
  have ho1 := ok_E ho1 hE
  show T _ _ _ _ [] _ _
  refine xt_goto (tgt := 119) dX4_readSignal_108 (by decide) ?_
  exact xt_sub [] rfl (VX4_readSignal_119 H)
def DX4_readSignal_0 (h : Nat) (x0 : Nat) (x1 : Int32) (M : Mem) (Q : Option Value → Mem → Prop) : Prop :=
  ok M x0 6 ∧ ∃ b2 : Nat, mR M x0 0 = some b2 ∧ ok M b2 9 ∧ E h mdX7_advance [.ref b2] M (fun r M4 => mE M M4 → r = none ∧ E h mdX4_checkNewName [.ref x0, .int x1] M4 (fun r M5 => mE M4 M5 → r = none ∧ ∃ b6 : Nat, mR M5 x0 0 = some b6 ∧ ok M5 b6 9 ∧ ((mI M5 b6 9) = 2 → ∃ b8 : Nat, mR M5 x0 7 = some b8 ∧ ok M5 b8 3 ∧ ∃ b10 : Nat, mR M5 x0 7 = some b10 ∧ ∃ b11 : Nat, mR M5 x0 0 = some b11 ∧ ok M5 b11 9 ∧ ok M5 b10 3 ∧ E h mdX1_addSignal [.ref b10, .long (mJ M5 b11 11), .int x1] M5 (fun r M14 => mE M5 M14 → r = none ∧ ∃ b15 : Nat, mR M14 x0 0 = some b15 ∧ ok M14 b15 9 ∧ E h mdX7_advance [.ref b15] M14 (fun r M17 => mE M14 M17 → r = none ∧ ∃ b18 : Nat, mR M17 x0 0 = some b18 ∧ ok M17 b18 9 ∧ E h mdX7_accept [.ref b18, .int 4] M17 (fun r M20 => mE M17 M20 → ∃ r21 : Int32, r = some (.int r21) ∧ (r21 = 0 → DX4_readSignal_119 h  M20 Q) ∧
  (¬ (r21 = 0) → ∃ b22 : Nat, mR M20 x0 0 = some b22 ∧ ok M20 b22 9 ∧ ((mI M20 b22 9) = 33 → DX4_readSignal_91 h x0 (mI M5 b8 9) (mI M20 b22 9) M20 Q) ∧
  (¬ ((mI M20 b22 9) = 33) → ((mI M20 b22 9) = 34 → DX4_readSignal_91 h x0 (mI M5 b8 9) (mI M20 b22 9) M20 Q) ∧
  (¬ ((mI M20 b22 9) = 34) → (¬ (mI M20 b22 9) = 35 → ∃ b24 : Nat, mR M20 x0 0 = some b24 ∧ ok M20 b24 9 ∧ E h mdX7_fail [.ref b24, .int 2] M20 (fun r M26 => mE M20 M26 → r = none ∧ DX4_readSignal_119 h  M26 Q)) ∧
  ((mI M20 b22 9) = 35 → DX4_readSignal_91 h x0 (mI M5 b8 9) (mI M20 b22 9) M20 Q)))))))) ∧
  (¬ ((mI M5 b6 9) = 2) → Q none M5)))
set_option maxRecDepth 20000 in
set_option maxHeartbeats 2000000 in
theorem VX4_readSignal_0 {h : Nat} {x0 : Nat} {x1 : Int32} {M : Mem} {Q : Option Value → Mem → Prop} (H : DX4_readSignal_0 h x0 x1 M Q) : T (h + 1) mdX4_readSignal 0 [(0, .ref x0), (1, .int x1)] [] M Q := by
  unfold DX4_readSignal_0 at H
  refine xt_aload_n (j := 0) dX4_readSignal_0 rfl rfl ?_
  obtain ⟨ho1, H⟩ := H
  obtain ⟨b2, hb, H⟩ := H
  refine xt_getR dX4_readSignal_1 (flX4_14 rfl) ft_6_0 ho1.1 ho1.2 hb ?_
  obtain ⟨ho3, H⟩ := H
  refine xt_callV (h2 := h) (as := []) (st := []) dX4_readSignal_4 (mlX4_117 rfl) rfl ho3.1 ⟨by rw [ho3.2]; rfl, by rw [ho3.2]; decide⟩ (by first | decide | (simp [Value.category]; done)) (Nat.le_refl _) H (fun r M4 HH hE => ?_)
  obtain ⟨hr, H⟩ := HH hE
  subst hr
  have ho1 := ok_E ho1 hE
  show T _ _ _ _ [] _ _
  refine xt_aload_n (j := 0) dX4_readSignal_7 rfl rfl ?_
  refine xt_iload_n (j := 1) dX4_readSignal_8 rfl rfl ?_
  refine xt_callV (h2 := h) (as := [.int x1]) (st := []) dX4_readSignal_9 (mlX4_120 rfl) rfl ho1.1 ⟨by rw [ho1.2]; rfl, by rw [ho1.2]; decide⟩ (by first | decide | (simp [Value.category]; done)) (Nat.le_refl _) H (fun r M5 HH hE => ?_)
  obtain ⟨hr, H⟩ := HH hE
  subst hr
  have ho1 := ok_E ho1 hE
  show T _ _ _ _ [] _ _
  refine xt_aload_n (j := 0) dX4_readSignal_12 rfl rfl ?_
  obtain ⟨b6, hb, H⟩ := H
  refine xt_getR dX4_readSignal_13 (flX4_14 rfl) ft_6_0 ho1.1 ho1.2 hb ?_
  obtain ⟨ho7, H⟩ := H
  refine xt_getI dX4_readSignal_16 (flX4_66 rfl) ft_9_9 ho7.1 ho7.2 ?_
  refine xt_iconst (v := 2) dX4_readSignal_19 (by decide) ?_
  refine xt_icmp_eq (tgt := 24) dX4_readSignal_20 (by decide) (fun hc => ?_) (fun hc => ?_)
  · have H := H.1 hc
    refine xt_aload_n (j := 0) dX4_readSignal_24 rfl rfl ?_
    obtain ⟨b8, hb, H⟩ := H
    refine xt_getR dX4_readSignal_25 (flX4_31 rfl) ft_6_7 ho1.1 ho1.2 hb ?_
    obtain ⟨ho9, H⟩ := H
    refine xt_getI dX4_readSignal_28 (flX4_123 rfl) ft_3_9 ho9.1 ho9.2 ?_
    refine xt_istore_n (lv' := [(2, .int (mI M5 b8 9)), (0, .ref x0), (1, .int x1)]) dX4_readSignal_31 rfl (by decide) rfl ?_
    refine xt_aload_n (j := 1) dX4_readSignal_32 rfl rfl ?_
    obtain ⟨b10, hb, H⟩ := H
    refine xt_getR dX4_readSignal_33 (flX4_31 rfl) ft_6_7 ho1.1 ho1.2 hb ?_
    refine xt_aload_n (j := 1) dX4_readSignal_36 rfl rfl ?_
    obtain ⟨b11, hb, H⟩ := H
    refine xt_getR dX4_readSignal_37 (flX4_14 rfl) ft_6_0 ho1.1 ho1.2 hb ?_
    obtain ⟨ho12, H⟩ := H
    refine xt_getJ dX4_readSignal_40 (flX4_126 rfl) ft_9_11 ho12.1 ho12.2 ?_
    refine xt_iload_n (j := 2) dX4_readSignal_43 rfl rfl ?_
    obtain ⟨ho13, H⟩ := H
    refine xt_callV (h2 := h) (as := [.long (mJ M5 b11 11), .int x1]) (st := []) dX4_readSignal_44 (mlX4_130 rfl) rfl ho13.1 ⟨by rw [ho13.2]; rfl, by rw [ho13.2]; decide⟩ (by first | decide | (simp [Value.category]; done)) (Nat.le_refl _) H (fun r M14 HH hE => ?_)
    obtain ⟨hr, H⟩ := HH hE
    subst hr
    have ho1 := ok_E ho1 hE
    show T _ _ _ _ [] _ _
    refine xt_aload_n (j := 1) dX4_readSignal_47 rfl rfl ?_
    obtain ⟨b15, hb, H⟩ := H
    refine xt_getR dX4_readSignal_48 (flX4_14 rfl) ft_6_0 ho1.1 ho1.2 hb ?_
    obtain ⟨ho16, H⟩ := H
    refine xt_callV (h2 := h) (as := []) (st := []) dX4_readSignal_51 (mlX4_117 rfl) rfl ho16.1 ⟨by rw [ho16.2]; rfl, by rw [ho16.2]; decide⟩ (by first | decide | (simp [Value.category]; done)) (Nat.le_refl _) H (fun r M17 HH hE => ?_)
    obtain ⟨hr, H⟩ := HH hE
    subst hr
    have ho1 := ok_E ho1 hE
    show T _ _ _ _ [] _ _
    refine xt_aload_n (j := 1) dX4_readSignal_54 rfl rfl ?_
    obtain ⟨b18, hb, H⟩ := H
    refine xt_getR dX4_readSignal_55 (flX4_14 rfl) ft_6_0 ho1.1 ho1.2 hb ?_
    refine xt_iconst (v := 4) dX4_readSignal_58 (by decide) ?_
    obtain ⟨ho19, H⟩ := H
    refine xt_callV (h2 := h) (as := [.int 4]) (st := []) dX4_readSignal_59 (mlX4_134 rfl) rfl ho19.1 ⟨by rw [ho19.2]; rfl, by rw [ho19.2]; decide⟩ (by first | decide | (simp [Value.category]; done)) (Nat.le_refl _) H (fun r M20 HH hE => ?_)
    obtain ⟨r21, hr, H⟩ := HH hE
    subst hr
    have ho1 := ok_E ho1 hE
    show T _ _ _ _ [.int r21] _ _
    refine xt_if_eq (tgt := 119) dX4_readSignal_62 (by decide) (fun hc => ?_) (fun hc => ?_)
    · have H := H.1 hc
      exact xt_sub [] rfl (VX4_readSignal_119 H)
    · have H := H.2 hc
      refine xt_aload_n (j := 1) dX4_readSignal_65 rfl rfl ?_
      obtain ⟨b22, hb, H⟩ := H
      refine xt_getR dX4_readSignal_66 (flX4_14 rfl) ft_6_0 ho1.1 ho1.2 hb ?_
      obtain ⟨ho23, H⟩ := H
      refine xt_getI dX4_readSignal_69 (flX4_66 rfl) ft_9_9 ho23.1 ho23.2 ?_
      refine xt_istore_n (lv' := [(3, .int (mI M20 b22 9)), (2, .int (mI M5 b8 9)), (0, .ref x0), (1, .int x1)]) dX4_readSignal_72 rfl (by decide) rfl ?_
      refine xt_iload_n (j := 0) dX4_readSignal_73 rfl rfl ?_
      refine xt_bipush (v := 33) dX4_readSignal_74 (by decide) ?_
      refine xt_icmp_eq (tgt := 91) dX4_readSignal_76 (by decide) (fun hc => ?_) (fun hc => ?_)
      · have H := H.1 hc
        exact xt_sub [2, 1, 0] rfl (VX4_readSignal_91 H)
      · have H := H.2 hc
        refine xt_iload_n (j := 0) dX4_readSignal_79 rfl rfl ?_
        refine xt_bipush (v := 34) dX4_readSignal_80 (by decide) ?_
        refine xt_icmp_eq (tgt := 91) dX4_readSignal_82 (by decide) (fun hc => ?_) (fun hc => ?_)
        · have H := H.1 hc
          exact xt_sub [2, 1, 0] rfl (VX4_readSignal_91 H)
        · have H := H.2 hc
          refine xt_iload_n (j := 0) dX4_readSignal_85 rfl rfl ?_
          refine xt_bipush (v := 35) dX4_readSignal_86 (by decide) ?_
          refine xt_icmp_ne (tgt := 111) dX4_readSignal_88 (by decide) (fun hc => ?_) (fun hc => ?_)
          · have H := H.1 hc
            refine xt_aload_n (j := 2) dX4_readSignal_111 rfl rfl ?_
            obtain ⟨b24, hb, H⟩ := H
            refine xt_getR dX4_readSignal_112 (flX4_14 rfl) ft_6_0 ho1.1 ho1.2 hb ?_
            refine xt_iconst (v := 2) dX4_readSignal_115 (by decide) ?_
            obtain ⟨ho25, H⟩ := H
            refine xt_callV (h2 := h) (as := [.int 2]) (st := []) dX4_readSignal_116 (mlX4_69 rfl) rfl ho25.1 ⟨by rw [ho25.2]; rfl, by rw [ho25.2]; decide⟩ (by first | decide | (simp [Value.category]; done)) (Nat.le_refl _) H (fun r M26 HH hE => ?_)
            obtain ⟨hr, H⟩ := HH hE
            subst hr
            have ho1 := ok_E ho1 hE
            show T _ _ _ _ [] _ _
            exact xt_sub [] rfl (VX4_readSignal_119 H)
          · have H := H.2 hc
            exact xt_sub [2, 1, 0] rfl (VX4_readSignal_91 H)
  · have H := H.2 hc
    exact xt_return dX4_readSignal_23 rfl H
theorem KX4_readSignal {h : Nat} {x0 : Nat} {x1 : Int32} {M : Mem} {Q : Option Value → Mem → Prop} (H : DX4_readSignal_0 h x0 x1 M Q) : E (h + 1) mdX4_readSignal [.ref x0, .int x1] M Q := E.of (by decide) (Nat.le_of_ble_eq_true rfl) (fun _ _ _ => trivial) (VX4_readSignal_0 H)
def DX4_readVariable_115 (h : Nat) (x0 : Nat) (M : Mem) (Q : Option Value → Mem → Prop) : Prop :=
  ok M x0 6 ∧ ∃ b2 : Nat, mR M x0 0 = some b2 ∧ ok M b2 9 ∧ E h mdX7_expect [.ref b2, .int 3] M (fun r M4 => mE M M4 → r = none ∧ Q none M4)
set_option maxRecDepth 20000 in
set_option maxHeartbeats 2000000 in
theorem VX4_readVariable_115 {h : Nat} {x0 : Nat} {M : Mem} {Q : Option Value → Mem → Prop} (H : DX4_readVariable_115 h x0 M Q) : T (h + 1) mdX4_readVariable 115 [(0, .ref x0)] [] M Q := by
  unfold DX4_readVariable_115 at H
  refine xt_aload_n (j := 0) dX4_readVariable_115 rfl rfl ?_
  obtain ⟨ho1, H⟩ := H
  obtain ⟨b2, hb, H⟩ := H
  refine xt_getR dX4_readVariable_116 (flX4_14 rfl) ft_6_0 ho1.1 ho1.2 hb ?_
  refine xt_iconst (v := 3) dX4_readVariable_119 (by decide) ?_
  obtain ⟨ho3, H⟩ := H
  refine xt_callV (h2 := h) (as := [.int 3]) (st := []) dX4_readVariable_120 (mlX4_114 rfl) rfl ho3.1 ⟨by rw [ho3.2]; rfl, by rw [ho3.2]; decide⟩ (by first | decide | (simp [Value.category]; done)) (Nat.le_refl _) H (fun r M4 HH hE => ?_)
  obtain ⟨hr, H⟩ := HH hE
  subst hr
  have ho1 := ok_E ho1 hE
  show T _ _ _ _ [] _ _
  exact xt_return dX4_readVariable_123 rfl H
def DX4_readVariable_113 (h : Nat) (x0 : Nat) (s0 : Nat) (s1 : Int32) (s2 : Int64) (M : Mem) (Q : Option Value → Mem → Prop) : Prop :=
  ok M s0 21 ∧ vp_in s1 (mL M s0) ∧ ∀ M2 : Mem, M2 = wAI M s0 (s1 : Int32).toNatClampNeg ((s2 : Int64).toInt32) →
  DX4_readVariable_115 h x0 M2 Q
set_option maxRecDepth 20000 in
set_option maxHeartbeats 2000000 in
theorem VX4_readVariable_113 {h : Nat} {x0 : Nat} {s0 : Nat} {s1 : Int32} {s2 : Int64} {M : Mem} {Q : Option Value → Mem → Prop} (H : DX4_readVariable_113 h x0 s0 s1 s2 M Q) : T (h + 1) mdX4_readVariable 113 [(0, .ref x0)] [.long s2, .int s1, .ref s0] M Q := by
  unfold DX4_readVariable_113 at H
  refine xt_l2i dX4_readVariable_113 ?_
  obtain ⟨ho1, H⟩ := H
  obtain ⟨hi, H⟩ := H
  obtain ⟨M2, eM2⟩ : ∃ z, z = wAI M s0 (s1 : Int32).toNatClampNeg ((s2 : Int64).toInt32) := ⟨_, rfl⟩
  have H := H _ eM2
  refine xt_iast dX4_readVariable_114 ho1.1 ho1.2 hi ?_
  rw [← eM2]
  exact xt_sub [0] rfl (VX4_readVariable_115 H)
def DX4_readVariable_0 (h : Nat) (x0 : Nat) (M : Mem) (Q : Option Value → Mem → Prop) : Prop :=
  ok M x0 6 ∧ ∃ b2 : Nat, mR M x0 0 = some b2 ∧ ok M b2 9 ∧ E h mdX7_advance [.ref b2] M (fun r M4 => mE M M4 → r = none ∧ E h mdX4_checkNewName [.ref x0, .int 36] M4 (fun r M5 => mE M4 M5 → r = none ∧ ∃ b6 : Nat, mR M5 x0 0 = some b6 ∧ ok M5 b6 9 ∧ ((mI M5 b6 9) = 2 → ∃ b8 : Nat, mR M5 x0 7 = some b8 ∧ ok M5 b8 3 ∧ ∃ b10 : Nat, mR M5 x0 7 = some b10 ∧ ∃ b11 : Nat, mR M5 x0 0 = some b11 ∧ ok M5 b11 9 ∧ ok M5 b10 3 ∧ E h mdX1_addVariable [.ref b10, .long (mJ M5 b11 11)] M5 (fun r M14 => mE M5 M14 → r = none ∧ ∃ b15 : Nat, mR M14 x0 0 = some b15 ∧ ok M14 b15 9 ∧ E h mdX7_advance [.ref b15] M14 (fun r M17 => mE M14 M17 → r = none ∧ ∃ b18 : Nat, mR M17 x0 0 = some b18 ∧ ok M17 b18 9 ∧ E h mdX7_expect [.ref b18, .int 5] M17 (fun r M20 => mE M17 M20 → r = none ∧ ∃ b21 : Nat, mR M20 x0 0 = some b21 ∧ ok M20 b21 9 ∧ E h mdX7_accept [.ref b21, .int 21] M20 (fun r M23 => mE M20 M23 → ∃ r24 : Int32, r = some (.int r24) ∧ ∃ b25 : Nat, mR M23 x0 0 = some b25 ∧ ok M23 b25 9 ∧ (¬ (mI M23 b25 9) = 3 → DX4_readVariable_115 h x0 M23 Q) ∧
  ((mI M23 b25 9) = 3 → ∃ b27 : Nat, mR M23 x0 7 = some b27 ∧ ok M23 b27 3 ∧ ∃ b29 : Nat, mR M23 b27 5 = some b29 ∧ (r24 = 0 → ∃ b30 : Nat, mR M23 x0 0 = some b30 ∧ ok M23 b30 9 ∧ DX4_readVariable_113 h x0 b29 (mI M5 b8 12) (mJ M23 b30 11) M23 Q) ∧
  (¬ (r24 = 0) → ∃ b32 : Nat, mR M23 x0 0 = some b32 ∧ ok M23 b32 9 ∧ DX4_readVariable_113 h x0 b29 (mI M5 b8 12) (-(mJ M23 b32 11)) M23 Q))))))) ∧
  (¬ ((mI M5 b6 9) = 2) → Q none M5)))
set_option maxRecDepth 20000 in
set_option maxHeartbeats 2000000 in
theorem VX4_readVariable_0 {h : Nat} {x0 : Nat} {M : Mem} {Q : Option Value → Mem → Prop} (H : DX4_readVariable_0 h x0 M Q) : T (h + 1) mdX4_readVariable 0 [(0, .ref x0)] [] M Q := by
  unfold DX4_readVariable_0 at H
  refine xt_aload_n (j := 0) dX4_readVariable_0 rfl rfl ?_
  obtain ⟨ho1, H⟩ := H
  obtain ⟨b2, hb, H⟩ := H
  refine xt_getR dX4_readVariable_1 (flX4_14 rfl) ft_6_0 ho1.1 ho1.2 hb ?_
  obtain ⟨ho3, H⟩ := H
  refine xt_callV (h2 := h) (as := []) (st := []) dX4_readVariable_4 (mlX4_117 rfl) rfl ho3.1 ⟨by rw [ho3.2]; rfl, by rw [ho3.2]; decide⟩ (by first | decide | (simp [Value.category]; done)) (Nat.le_refl _) H (fun r M4 HH hE => ?_)
  obtain ⟨hr, H⟩ := HH hE
  subst hr
  have ho1 := ok_E ho1 hE
  show T _ _ _ _ [] _ _
  refine xt_aload_n (j := 0) dX4_readVariable_7 rfl rfl ?_
  refine xt_bipush (v := 36) dX4_readVariable_8 (by decide) ?_
  refine xt_callV (h2 := h) (as := [.int 36]) (st := []) dX4_readVariable_10 (mlX4_120 rfl) rfl ho1.1 ⟨by rw [ho1.2]; rfl, by rw [ho1.2]; decide⟩ (by first | decide | (simp [Value.category]; done)) (Nat.le_refl _) H (fun r M5 HH hE => ?_)
  obtain ⟨hr, H⟩ := HH hE
  subst hr
  have ho1 := ok_E ho1 hE
  show T _ _ _ _ [] _ _
  refine xt_aload_n (j := 0) dX4_readVariable_13 rfl rfl ?_
  obtain ⟨b6, hb, H⟩ := H
  refine xt_getR dX4_readVariable_14 (flX4_14 rfl) ft_6_0 ho1.1 ho1.2 hb ?_
  obtain ⟨ho7, H⟩ := H
  refine xt_getI dX4_readVariable_17 (flX4_66 rfl) ft_9_9 ho7.1 ho7.2 ?_
  refine xt_iconst (v := 2) dX4_readVariable_20 (by decide) ?_
  refine xt_icmp_eq (tgt := 25) dX4_readVariable_21 (by decide) (fun hc => ?_) (fun hc => ?_)
  · have H := H.1 hc
    refine xt_aload_n (j := 0) dX4_readVariable_25 rfl rfl ?_
    obtain ⟨b8, hb, H⟩ := H
    refine xt_getR dX4_readVariable_26 (flX4_31 rfl) ft_6_7 ho1.1 ho1.2 hb ?_
    obtain ⟨ho9, H⟩ := H
    refine xt_getI dX4_readVariable_29 (flX4_142 rfl) ft_3_12 ho9.1 ho9.2 ?_
    refine xt_istore_n (lv' := [(1, .int (mI M5 b8 12)), (0, .ref x0)]) dX4_readVariable_32 rfl (by decide) rfl ?_
    refine xt_aload_n (j := 1) dX4_readVariable_33 rfl rfl ?_
    obtain ⟨b10, hb, H⟩ := H
    refine xt_getR dX4_readVariable_34 (flX4_31 rfl) ft_6_7 ho1.1 ho1.2 hb ?_
    refine xt_aload_n (j := 1) dX4_readVariable_37 rfl rfl ?_
    obtain ⟨b11, hb, H⟩ := H
    refine xt_getR dX4_readVariable_38 (flX4_14 rfl) ft_6_0 ho1.1 ho1.2 hb ?_
    obtain ⟨ho12, H⟩ := H
    refine xt_getJ dX4_readVariable_41 (flX4_126 rfl) ft_9_11 ho12.1 ho12.2 ?_
    obtain ⟨ho13, H⟩ := H
    refine xt_callV (h2 := h) (as := [.long (mJ M5 b11 11)]) (st := []) dX4_readVariable_44 (mlX4_145 rfl) rfl ho13.1 ⟨by rw [ho13.2]; rfl, by rw [ho13.2]; decide⟩ (by first | decide | (simp [Value.category]; done)) (Nat.le_refl _) H (fun r M14 HH hE => ?_)
    obtain ⟨hr, H⟩ := HH hE
    subst hr
    have ho1 := ok_E ho1 hE
    show T _ _ _ _ [] _ _
    refine xt_aload_n (j := 1) dX4_readVariable_47 rfl rfl ?_
    obtain ⟨b15, hb, H⟩ := H
    refine xt_getR dX4_readVariable_48 (flX4_14 rfl) ft_6_0 ho1.1 ho1.2 hb ?_
    obtain ⟨ho16, H⟩ := H
    refine xt_callV (h2 := h) (as := []) (st := []) dX4_readVariable_51 (mlX4_117 rfl) rfl ho16.1 ⟨by rw [ho16.2]; rfl, by rw [ho16.2]; decide⟩ (by first | decide | (simp [Value.category]; done)) (Nat.le_refl _) H (fun r M17 HH hE => ?_)
    obtain ⟨hr, H⟩ := HH hE
    subst hr
    have ho1 := ok_E ho1 hE
    show T _ _ _ _ [] _ _
    refine xt_aload_n (j := 1) dX4_readVariable_54 rfl rfl ?_
    obtain ⟨b18, hb, H⟩ := H
    refine xt_getR dX4_readVariable_55 (flX4_14 rfl) ft_6_0 ho1.1 ho1.2 hb ?_
    refine xt_iconst (v := 5) dX4_readVariable_58 (by decide) ?_
    obtain ⟨ho19, H⟩ := H
    refine xt_callV (h2 := h) (as := [.int 5]) (st := []) dX4_readVariable_59 (mlX4_114 rfl) rfl ho19.1 ⟨by rw [ho19.2]; rfl, by rw [ho19.2]; decide⟩ (by first | decide | (simp [Value.category]; done)) (Nat.le_refl _) H (fun r M20 HH hE => ?_)
    obtain ⟨hr, H⟩ := HH hE
    subst hr
    have ho1 := ok_E ho1 hE
    show T _ _ _ _ [] _ _
    refine xt_aload_n (j := 1) dX4_readVariable_62 rfl rfl ?_
    obtain ⟨b21, hb, H⟩ := H
    refine xt_getR dX4_readVariable_63 (flX4_14 rfl) ft_6_0 ho1.1 ho1.2 hb ?_
    refine xt_bipush (v := 21) dX4_readVariable_66 (by decide) ?_
    obtain ⟨ho22, H⟩ := H
    refine xt_callV (h2 := h) (as := [.int 21]) (st := []) dX4_readVariable_68 (mlX4_134 rfl) rfl ho22.1 ⟨by rw [ho22.2]; rfl, by rw [ho22.2]; decide⟩ (by first | decide | (simp [Value.category]; done)) (Nat.le_refl _) H (fun r M23 HH hE => ?_)
    obtain ⟨r24, hr, H⟩ := HH hE
    subst hr
    have ho1 := ok_E ho1 hE
    show T _ _ _ _ [.int r24] _ _
    refine xt_istore_n (lv' := [(2, .int r24), (1, .int (mI M5 b8 12)), (0, .ref x0)]) dX4_readVariable_71 rfl (by decide) rfl ?_
    refine xt_aload_n (j := 2) dX4_readVariable_72 rfl rfl ?_
    obtain ⟨b25, hb, H⟩ := H
    refine xt_getR dX4_readVariable_73 (flX4_14 rfl) ft_6_0 ho1.1 ho1.2 hb ?_
    obtain ⟨ho26, H⟩ := H
    refine xt_getI dX4_readVariable_76 (flX4_66 rfl) ft_9_9 ho26.1 ho26.2 ?_
    refine xt_iconst (v := 3) dX4_readVariable_79 (by decide) ?_
    refine xt_icmp_ne (tgt := 115) dX4_readVariable_80 (by decide) (fun hc => ?_) (fun hc => ?_)
    · have H := H.1 hc
      exact xt_sub [2] rfl (VX4_readVariable_115 H)
    · have H := H.2 hc
      refine xt_aload_n (j := 2) dX4_readVariable_83 rfl rfl ?_
      obtain ⟨b27, hb, H⟩ := H
      refine xt_getR dX4_readVariable_84 (flX4_31 rfl) ft_6_7 ho1.1 ho1.2 hb ?_
      obtain ⟨ho28, H⟩ := H
      obtain ⟨b29, hb, H⟩ := H
      refine xt_getR dX4_readVariable_87 (flX4_149 rfl) ft_3_5 ho28.1 ho28.2 hb ?_
      refine xt_iload_n (j := 1) dX4_readVariable_90 rfl rfl ?_
      refine xt_iload_n (j := 0) dX4_readVariable_91 rfl rfl ?_
      refine xt_if_eq (tgt := 106) dX4_readVariable_92 (by decide) (fun hc => ?_) (fun hc => ?_)
      · have H := H.1 hc
        refine xt_aload_n (j := 2) dX4_readVariable_106 rfl rfl ?_
        obtain ⟨b30, hb, H⟩ := H
        refine xt_getR dX4_readVariable_107 (flX4_14 rfl) ft_6_0 ho1.1 ho1.2 hb ?_
        obtain ⟨ho31, H⟩ := H
        refine xt_getJ dX4_readVariable_110 (flX4_126 rfl) ft_9_11 ho31.1 ho31.2 ?_
        exact xt_sub [2] rfl (VX4_readVariable_113 H)
      · have H := H.2 hc
        refine xt_aload_n (j := 2) dX4_readVariable_95 rfl rfl ?_
        obtain ⟨b32, hb, H⟩ := H
        refine xt_getR dX4_readVariable_96 (flX4_14 rfl) ft_6_0 ho1.1 ho1.2 hb ?_
        obtain ⟨ho33, H⟩ := H
        refine xt_getJ dX4_readVariable_99 (flX4_126 rfl) ft_9_11 ho33.1 ho33.2 ?_
        refine xt_lneg dX4_readVariable_102 ?_
        refine xt_goto (tgt := 113) dX4_readVariable_103 (by decide) ?_
        exact xt_sub [2] rfl (VX4_readVariable_113 H)
  · have H := H.2 hc
    exact xt_return dX4_readVariable_24 rfl H
theorem KX4_readVariable {h : Nat} {x0 : Nat} {M : Mem} {Q : Option Value → Mem → Prop} (H : DX4_readVariable_0 h x0 M Q) : E (h + 1) mdX4_readVariable [.ref x0] M Q := E.of (by decide) (Nat.le_of_ble_eq_true rfl) (fun _ _ _ => trivial) (VX4_readVariable_0 H)
def DX4_checkNewName_70 (h : Nat) (M : Mem) (Q : Option Value → Mem → Prop) : Prop :=
  Q none M
set_option maxRecDepth 20000 in
set_option maxHeartbeats 2000000 in
theorem VX4_checkNewName_70 {h : Nat} {M : Mem} {Q : Option Value → Mem → Prop} (H : DX4_checkNewName_70 h  M Q) : T (h + 1) mdX4_checkNewName 70 [] [] M Q := by
  unfold DX4_checkNewName_70 at H
  exact xt_return dX4_checkNewName_70 rfl H
def DX4_checkNewName_0 (h : Nat) (x0 : Nat) (x1 : Int32) (M : Mem) (Q : Option Value → Mem → Prop) : Prop :=
  ok M x0 6 ∧ ∃ b2 : Nat, mR M x0 0 = some b2 ∧ ok M b2 9 ∧ ((mI M b2 9) = 2 → ∃ b4 : Nat, mR M x0 7 = some b4 ∧ ∃ b5 : Nat, mR M x0 0 = some b5 ∧ ok M b5 9 ∧ ok M b4 3 ∧ E h mdX1_isTold [.ref b4, .long (mJ M b5 11)] M (fun r M8 => mE M M8 → ∃ r9 : Int32, r = some (.int r9) ∧ (r9 = 0 → ∃ b10 : Nat, mR M8 x0 7 = some b10 ∧ ok M8 b10 3 ∧ E h mdX1_isFullFor [.ref b10, .int x1] M8 (fun r M12 => mE M8 M12 → ∃ r13 : Int32, r = some (.int r13) ∧ (r13 = 0 → DX4_checkNewName_70 h  M12 Q) ∧
  (¬ (r13 = 0) → ∃ b14 : Nat, mR M12 x0 0 = some b14 ∧ ok M12 b14 9 ∧ E h mdX7_fail [.ref b14, .int 6] M12 (fun r M16 => mE M12 M16 → r = none ∧ DX4_checkNewName_70 h  M16 Q)))) ∧
  (¬ (r9 = 0) → ∃ b17 : Nat, mR M8 x0 0 = some b17 ∧ ok M8 b17 9 ∧ E h mdX7_fail [.ref b17, .int 3] M8 (fun r M19 => mE M8 M19 → r = none ∧ DX4_checkNewName_70 h  M19 Q)))) ∧
  (¬ ((mI M b2 9) = 2) → ∃ b20 : Nat, mR M x0 0 = some b20 ∧ ok M b20 9 ∧ E h mdX7_fail [.ref b20, .int 2] M (fun r M22 => mE M M22 → r = none ∧ DX4_checkNewName_70 h  M22 Q))
set_option maxRecDepth 20000 in
set_option maxHeartbeats 2000000 in
theorem VX4_checkNewName_0 {h : Nat} {x0 : Nat} {x1 : Int32} {M : Mem} {Q : Option Value → Mem → Prop} (H : DX4_checkNewName_0 h x0 x1 M Q) : T (h + 1) mdX4_checkNewName 0 [(0, .ref x0), (1, .int x1)] [] M Q := by
  unfold DX4_checkNewName_0 at H
  refine xt_aload_n (j := 0) dX4_checkNewName_0 rfl rfl ?_
  obtain ⟨ho1, H⟩ := H
  obtain ⟨b2, hb, H⟩ := H
  refine xt_getR dX4_checkNewName_1 (flX4_14 rfl) ft_6_0 ho1.1 ho1.2 hb ?_
  obtain ⟨ho3, H⟩ := H
  refine xt_getI dX4_checkNewName_4 (flX4_66 rfl) ft_9_9 ho3.1 ho3.2 ?_
  refine xt_iconst (v := 2) dX4_checkNewName_7 (by decide) ?_
  refine xt_icmp_eq (tgt := 22) dX4_checkNewName_8 (by decide) (fun hc => ?_) (fun hc => ?_)
  · have H := H.1 hc
    refine xt_aload_n (j := 0) dX4_checkNewName_22 rfl rfl ?_
    obtain ⟨b4, hb, H⟩ := H
    refine xt_getR dX4_checkNewName_23 (flX4_31 rfl) ft_6_7 ho1.1 ho1.2 hb ?_
    refine xt_aload_n (j := 0) dX4_checkNewName_26 rfl rfl ?_
    obtain ⟨b5, hb, H⟩ := H
    refine xt_getR dX4_checkNewName_27 (flX4_14 rfl) ft_6_0 ho1.1 ho1.2 hb ?_
    obtain ⟨ho6, H⟩ := H
    refine xt_getJ dX4_checkNewName_30 (flX4_126 rfl) ft_9_11 ho6.1 ho6.2 ?_
    obtain ⟨ho7, H⟩ := H
    refine xt_callV (h2 := h) (as := [.long (mJ M b5 11)]) (st := []) dX4_checkNewName_33 (mlX4_152 rfl) rfl ho7.1 ⟨by rw [ho7.2]; rfl, by rw [ho7.2]; decide⟩ (by first | decide | (simp [Value.category]; done)) (Nat.le_refl _) H (fun r M8 HH hE => ?_)
    obtain ⟨r9, hr, H⟩ := HH hE
    subst hr
    have ho1 := ok_E ho1 hE
    show T _ _ _ _ [.int r9] _ _
    refine xt_if_eq (tgt := 50) dX4_checkNewName_36 (by decide) (fun hc => ?_) (fun hc => ?_)
    · have H := H.1 hc
      refine xt_aload_n (j := 0) dX4_checkNewName_50 rfl rfl ?_
      obtain ⟨b10, hb, H⟩ := H
      refine xt_getR dX4_checkNewName_51 (flX4_31 rfl) ft_6_7 ho1.1 ho1.2 hb ?_
      refine xt_iload_n (j := 1) dX4_checkNewName_54 rfl rfl ?_
      obtain ⟨ho11, H⟩ := H
      refine xt_callV (h2 := h) (as := [.int x1]) (st := []) dX4_checkNewName_55 (mlX4_156 rfl) rfl ho11.1 ⟨by rw [ho11.2]; rfl, by rw [ho11.2]; decide⟩ (by first | decide | (simp [Value.category]; done)) (Nat.le_refl _) H (fun r M12 HH hE => ?_)
      obtain ⟨r13, hr, H⟩ := HH hE
      subst hr
      have ho1 := ok_E ho1 hE
      show T _ _ _ _ [.int r13] _ _
      refine xt_if_eq (tgt := 70) dX4_checkNewName_58 (by decide) (fun hc => ?_) (fun hc => ?_)
      · have H := H.1 hc
        exact xt_sub [] rfl (VX4_checkNewName_70 H)
      · have H := H.2 hc
        refine xt_aload_n (j := 0) dX4_checkNewName_61 rfl rfl ?_
        obtain ⟨b14, hb, H⟩ := H
        refine xt_getR dX4_checkNewName_62 (flX4_14 rfl) ft_6_0 ho1.1 ho1.2 hb ?_
        refine xt_bipush (v := 6) dX4_checkNewName_65 (by decide) ?_
        obtain ⟨ho15, H⟩ := H
        refine xt_callV (h2 := h) (as := [.int 6]) (st := []) dX4_checkNewName_67 (mlX4_69 rfl) rfl ho15.1 ⟨by rw [ho15.2]; rfl, by rw [ho15.2]; decide⟩ (by first | decide | (simp [Value.category]; done)) (Nat.le_refl _) H (fun r M16 HH hE => ?_)
        obtain ⟨hr, H⟩ := HH hE
        subst hr
        have ho1 := ok_E ho1 hE
        show T _ _ _ _ [] _ _
        exact xt_sub [] rfl (VX4_checkNewName_70 H)
    · have H := H.2 hc
      refine xt_aload_n (j := 0) dX4_checkNewName_39 rfl rfl ?_
      obtain ⟨b17, hb, H⟩ := H
      refine xt_getR dX4_checkNewName_40 (flX4_14 rfl) ft_6_0 ho1.1 ho1.2 hb ?_
      refine xt_iconst (v := 3) dX4_checkNewName_43 (by decide) ?_
      obtain ⟨ho18, H⟩ := H
      refine xt_callV (h2 := h) (as := [.int 3]) (st := []) dX4_checkNewName_44 (mlX4_69 rfl) rfl ho18.1 ⟨by rw [ho18.2]; rfl, by rw [ho18.2]; decide⟩ (by first | decide | (simp [Value.category]; done)) (Nat.le_refl _) H (fun r M19 HH hE => ?_)
      obtain ⟨hr, H⟩ := HH hE
      subst hr
      have ho1 := ok_E ho1 hE
      show T _ _ _ _ [] _ _
      refine xt_goto (tgt := 70) dX4_checkNewName_47 (by decide) ?_
      exact xt_sub [] rfl (VX4_checkNewName_70 H)
  · have H := H.2 hc
    refine xt_aload_n (j := 0) dX4_checkNewName_11 rfl rfl ?_
    obtain ⟨b20, hb, H⟩ := H
    refine xt_getR dX4_checkNewName_12 (flX4_14 rfl) ft_6_0 ho1.1 ho1.2 hb ?_
    refine xt_iconst (v := 2) dX4_checkNewName_15 (by decide) ?_
    obtain ⟨ho21, H⟩ := H
    refine xt_callV (h2 := h) (as := [.int 2]) (st := []) dX4_checkNewName_16 (mlX4_69 rfl) rfl ho21.1 ⟨by rw [ho21.2]; rfl, by rw [ho21.2]; decide⟩ (by first | decide | (simp [Value.category]; done)) (Nat.le_refl _) H (fun r M22 HH hE => ?_)
    obtain ⟨hr, H⟩ := HH hE
    subst hr
    have ho1 := ok_E ho1 hE
    show T _ _ _ _ [] _ _
    refine xt_goto (tgt := 70) dX4_checkNewName_19 (by decide) ?_
    exact xt_sub [] rfl (VX4_checkNewName_70 H)
theorem KX4_checkNewName {h : Nat} {x0 : Nat} {x1 : Int32} {M : Mem} {Q : Option Value → Mem → Prop} (H : DX4_checkNewName_0 h x0 x1 M Q) : E (h + 1) mdX4_checkNewName [.ref x0, .int x1] M Q := E.of (by decide) (Nat.le_of_ble_eq_true rfl) (fun _ _ _ => trivial) (VX4_checkNewName_0 H)
def DX4_readSeq_65 (h : Nat) (x2 : Int32) (M : Mem) (Q : Option Value → Mem → Prop) : Prop :=
  Q (some (.int x2)) M
set_option maxRecDepth 20000 in
set_option maxHeartbeats 2000000 in
theorem VX4_readSeq_65 {h : Nat} {x2 : Int32} {M : Mem} {Q : Option Value → Mem → Prop} (H : DX4_readSeq_65 h x2 M Q) : T (h + 1) mdX4_readSeq 65 [(2, .int x2)] [] M Q := by
  unfold DX4_readSeq_65 at H
  refine xt_iload_n (j := 0) dX4_readSeq_65 rfl rfl ?_
  exact xt_ireturn dX4_readSeq_66 rfl H
def DX4_readSeq_26 (h : Nat) (x0 : Nat) (x1 : Int32) (x2 : Int32) (x3 : Int32) (M : Mem) (Q : Option Value → Mem → Prop) : Prop :=
  (40 ≤ x3 → DX4_readSeq_65 h x2 M Q) ∧
  (¬ (40 ≤ x3) → ok M x0 6 ∧ ∃ b2 : Nat, mR M x0 0 = some b2 ∧ ok M b2 9 ∧ E h mdX7_accept [.ref b2, .int 13] M (fun r M4 => mE M M4 → ∃ r5 : Int32, r = some (.int r5) ∧ (r5 = 0 → DX4_readSeq_65 h x2 M4 Q) ∧
  (¬ (r5 = 0) → ∃ b6 : Nat, mR M4 x0 1 = some b6 ∧ E h mdX4_readPart [.ref x0, .int (x1 + 1)] M4 (fun r M7 => mE M4 M7 → ∃ r8 : Int32, r = some (.int r8) ∧ ok M7 b6 10 ∧ E h mdX8_hang [.ref b6, .int x2, .int r8] M7 (fun r M10 => mE M7 M10 → r = none ∧ T (h + 1) mdX4_readSeq 26 [(0, .ref x0), (1, .int x1), (2, .int x2), (3, .int (x3 + 1))] [] M10 Q)))))
set_option maxRecDepth 20000 in
set_option maxHeartbeats 2000000 in
theorem VX4_readSeq_26 {h : Nat} {x0 : Nat} {x1 : Int32} {x2 : Int32} {x3 : Int32} {M : Mem} {Q : Option Value → Mem → Prop} (H : DX4_readSeq_26 h x0 x1 x2 x3 M Q) : T (h + 1) mdX4_readSeq 26 [(0, .ref x0), (1, .int x1), (2, .int x2), (3, .int x3)] [] M Q := by
  unfold DX4_readSeq_26 at H
  refine xt_iload_n (j := 3) dX4_readSeq_26 rfl rfl ?_
  refine xt_bipush (v := 40) dX4_readSeq_27 (by decide) ?_
  refine xt_icmp_ge (tgt := 65) dX4_readSeq_29 (by decide) (fun hc => ?_) (fun hc => ?_)
  · have H := H.1 hc
    exact xt_sub [2] rfl (VX4_readSeq_65 H)
  · have H := H.2 hc
    refine xt_aload_n (j := 0) dX4_readSeq_32 rfl rfl ?_
    obtain ⟨ho1, H⟩ := H
    obtain ⟨b2, hb, H⟩ := H
    refine xt_getR dX4_readSeq_33 (flX4_14 rfl) ft_6_0 ho1.1 ho1.2 hb ?_
    refine xt_bipush (v := 13) dX4_readSeq_36 (by decide) ?_
    obtain ⟨ho3, H⟩ := H
    refine xt_callV (h2 := h) (as := [.int 13]) (st := []) dX4_readSeq_38 (mlX4_134 rfl) rfl ho3.1 ⟨by rw [ho3.2]; rfl, by rw [ho3.2]; decide⟩ (by first | decide | (simp [Value.category]; done)) (Nat.le_refl _) H (fun r M4 HH hE => ?_)
    obtain ⟨r5, hr, H⟩ := HH hE
    subst hr
    have ho1 := ok_E ho1 hE
    show T _ _ _ _ [.int r5] _ _
    refine xt_if_eq (tgt := 65) dX4_readSeq_41 (by decide) (fun hc => ?_) (fun hc => ?_)
    · have H := H.1 hc
      exact xt_sub [2] rfl (VX4_readSeq_65 H)
    · have H := H.2 hc
      refine xt_aload_n (j := 0) dX4_readSeq_44 rfl rfl ?_
      obtain ⟨b6, hb, H⟩ := H
      refine xt_getR dX4_readSeq_45 (flX4_20 rfl) ft_6_1 ho1.1 ho1.2 hb ?_
      refine xt_iload_n (j := 2) dX4_readSeq_48 rfl rfl ?_
      refine xt_aload_n (j := 0) dX4_readSeq_49 rfl rfl ?_
      refine xt_iload_n (j := 1) dX4_readSeq_50 rfl rfl ?_
      refine xt_iconst (v := 1) dX4_readSeq_51 (by decide) ?_
      refine xt_iadd dX4_readSeq_52 ?_
      refine xt_callV (h2 := h) (as := [.int (x1 + 1)]) (st := [.int x2, .ref b6]) dX4_readSeq_53 (mlX4_162 rfl) rfl ho1.1 ⟨by rw [ho1.2]; rfl, by rw [ho1.2]; decide⟩ (by first | decide | (simp [Value.category]; done)) (Nat.le_refl _) H (fun r M7 HH hE => ?_)
      obtain ⟨r8, hr, H⟩ := HH hE
      subst hr
      have ho1 := ok_E ho1 hE
      show T _ _ _ _ [.int r8, .int x2, .ref b6] _ _
      obtain ⟨ho9, H⟩ := H
      refine xt_callV (h2 := h) (as := [.int x2, .int r8]) (st := []) dX4_readSeq_56 (mlX4_165 rfl) rfl ho9.1 ⟨by rw [ho9.2]; rfl, by rw [ho9.2]; decide⟩ (by first | decide | (simp [Value.category]; done)) (Nat.le_refl _) H (fun r M10 HH hE => ?_)
      obtain ⟨hr, H⟩ := HH hE
      subst hr
      have ho1 := ok_E ho1 hE
      show T _ _ _ _ [] _ _
      refine xt_iinc (j := 3) (v := x3 + 1) (lv' := [(3, .int (x3 + 1)), (0, .ref x0), (1, .int x1), (2, .int x2)]) dX4_readSeq_59 rfl (by rfl) (by decide) rfl ?_
      refine xt_goto (tgt := 26) dX4_readSeq_62 (by decide) ?_
      exact xt_sub (lv' := [(0, .ref x0), (1, .int x1), (2, .int x2), (3, .int (x3 + 1))]) [1, 2, 3, 0] rfl H
def DX4_readSeq_0 (h : Nat) (x0 : Nat) (x1 : Int32) (M : Mem) (Q : Option Value → Mem → Prop) : Prop :=
  ok M x0 6 ∧ ∃ b2 : Nat, mR M x0 1 = some b2 ∧ ok M b2 10 ∧ E h mdX8_make [.ref b2, .int 5] M (fun r M4 => mE M M4 → ∃ r5 : Int32, r = some (.int r5) ∧ ∃ b6 : Nat, mR M4 x0 1 = some b6 ∧ E h mdX4_readPart [.ref x0, .int (x1 + 1)] M4 (fun r M7 => mE M4 M7 → ∃ r8 : Int32, r = some (.int r8) ∧ ok M7 b6 10 ∧ E h mdX8_hang [.ref b6, .int r5, .int r8] M7 (fun r M10 => mE M7 M10 → r = none ∧ T (h + 1) mdX4_readSeq 26 [(0, .ref x0), (1, .int x1), (2, .int r5), (3, .int 0)] [] M10 Q)))
set_option maxRecDepth 20000 in
set_option maxHeartbeats 2000000 in
theorem VX4_readSeq_0 {h : Nat} {x0 : Nat} {x1 : Int32} {M : Mem} {Q : Option Value → Mem → Prop} (H : DX4_readSeq_0 h x0 x1 M Q) : T (h + 1) mdX4_readSeq 0 [(0, .ref x0), (1, .int x1)] [] M Q := by
  unfold DX4_readSeq_0 at H
  refine xt_aload_n (j := 0) dX4_readSeq_0 rfl rfl ?_
  obtain ⟨ho1, H⟩ := H
  obtain ⟨b2, hb, H⟩ := H
  refine xt_getR dX4_readSeq_1 (flX4_20 rfl) ft_6_1 ho1.1 ho1.2 hb ?_
  refine xt_iconst (v := 5) dX4_readSeq_4 (by decide) ?_
  obtain ⟨ho3, H⟩ := H
  refine xt_callV (h2 := h) (as := [.int 5]) (st := []) dX4_readSeq_5 (mlX4_159 rfl) rfl ho3.1 ⟨by rw [ho3.2]; rfl, by rw [ho3.2]; decide⟩ (by first | decide | (simp [Value.category]; done)) (Nat.le_refl _) H (fun r M4 HH hE => ?_)
  obtain ⟨r5, hr, H⟩ := HH hE
  subst hr
  have ho1 := ok_E ho1 hE
  show T _ _ _ _ [.int r5] _ _
  refine xt_istore_n (lv' := [(2, .int r5), (0, .ref x0), (1, .int x1)]) dX4_readSeq_8 rfl (by decide) rfl ?_
  refine xt_aload_n (j := 1) dX4_readSeq_9 rfl rfl ?_
  obtain ⟨b6, hb, H⟩ := H
  refine xt_getR dX4_readSeq_10 (flX4_20 rfl) ft_6_1 ho1.1 ho1.2 hb ?_
  refine xt_iload_n (j := 0) dX4_readSeq_13 rfl rfl ?_
  refine xt_aload_n (j := 1) dX4_readSeq_14 rfl rfl ?_
  refine xt_iload_n (j := 2) dX4_readSeq_15 rfl rfl ?_
  refine xt_iconst (v := 1) dX4_readSeq_16 (by decide) ?_
  refine xt_iadd dX4_readSeq_17 ?_
  refine xt_callV (h2 := h) (as := [.int (x1 + 1)]) (st := [.int r5, .ref b6]) dX4_readSeq_18 (mlX4_162 rfl) rfl ho1.1 ⟨by rw [ho1.2]; rfl, by rw [ho1.2]; decide⟩ (by first | decide | (simp [Value.category]; done)) (Nat.le_refl _) H (fun r M7 HH hE => ?_)
  obtain ⟨r8, hr, H⟩ := HH hE
  subst hr
  have ho1 := ok_E ho1 hE
  show T _ _ _ _ [.int r8, .int r5, .ref b6] _ _
  obtain ⟨ho9, H⟩ := H
  refine xt_callV (h2 := h) (as := [.int r5, .int r8]) (st := []) dX4_readSeq_21 (mlX4_165 rfl) rfl ho9.1 ⟨by rw [ho9.2]; rfl, by rw [ho9.2]; decide⟩ (by first | decide | (simp [Value.category]; done)) (Nat.le_refl _) H (fun r M10 HH hE => ?_)
  obtain ⟨hr, H⟩ := HH hE
  subst hr
  have ho1 := ok_E ho1 hE
  show T _ _ _ _ [] _ _
  refine xt_iconst (v := 0) dX4_readSeq_24 (by decide) ?_
  refine xt_istore_n (lv' := [(3, .int 0), (2, .int r5), (0, .ref x0), (1, .int x1)]) dX4_readSeq_25 rfl (by decide) rfl ?_
  exact xt_sub (lv' := [(0, .ref x0), (1, .int x1), (2, .int r5), (3, .int 0)]) [2, 3, 1, 0] rfl H
theorem KX4_readSeq {h : Nat} {x0 : Nat} {x1 : Int32} {M : Mem} {Q : Option Value → Mem → Prop} (H : DX4_readSeq_0 h x0 x1 M Q) : E (h + 1) mdX4_readSeq [.ref x0, .int x1] M Q := E.of (by decide) (Nat.le_of_ble_eq_true rfl) (fun _ _ _ => trivial) (VX4_readSeq_0 H)
def DX4_readPart_153 (h : Nat) (x3 : Nat) (M : Mem) (Q : Option Value → Mem → Prop) : Prop :=
  ok M x3 5 ∧ Q (some (.int (mI M x3 1))) M
set_option maxRecDepth 20000 in
set_option maxHeartbeats 2000000 in
theorem VX4_readPart_153 {h : Nat} {x3 : Nat} {M : Mem} {Q : Option Value → Mem → Prop} (H : DX4_readPart_153 h x3 M Q) : T (h + 1) mdX4_readPart 153 [(3, .ref x3)] [] M Q := by
  unfold DX4_readPart_153 at H
  refine xt_aload_n (j := 0) dX4_readPart_153 rfl rfl ?_
  obtain ⟨ho1, H⟩ := H
  refine xt_getI dX4_readPart_154 (flX4_204 rfl) ft_5_1 ho1.1 ho1.2 ?_
  exact xt_ireturn dX4_readPart_157 rfl H
def DX4_readPart_136 (h : Nat) (x0 : Nat) (x2 : Int32) (x3 : Nat) (s0 : Nat) (s1 : Int32) (M : Mem) (Q : Option Value → Mem → Prop) : Prop :=
  ok M s0 5 ∧ ∀ M2 : Mem, M2 = wI M s0 1 s1 →
  E h mdX4_staysOpen [.int x2] M2 (fun r M3 => mE M2 M3 → ∃ r4 : Int32, r = some (.int r4) ∧ (r4 = 0 → DX4_readPart_153 h x3 M3 Q) ∧
  (¬ (r4 = 0) → ok M3 x0 6 ∧ ∃ b6 : Nat, mR M3 x0 0 = some b6 ∧ ok M3 b6 9 ∧ E h mdX7_closes [.ref b6] M3 (fun r M8 => mE M3 M8 → r = none ∧ DX4_readPart_153 h x3 M8 Q)))
set_option maxRecDepth 20000 in
set_option maxHeartbeats 2000000 in
theorem VX4_readPart_136 {h : Nat} {x0 : Nat} {x2 : Int32} {x3 : Nat} {s0 : Nat} {s1 : Int32} {M : Mem} {Q : Option Value → Mem → Prop} (H : DX4_readPart_136 h x0 x2 x3 s0 s1 M Q) : T (h + 1) mdX4_readPart 136 [(0, .ref x0), (2, .int x2), (3, .ref x3)] [.int s1, .ref s0] M Q := by
  unfold DX4_readPart_136 at H
  obtain ⟨ho1, H⟩ := H
  obtain ⟨M2, eM2⟩ : ∃ z, z = wI M s0 1 s1 := ⟨_, rfl⟩
  have H := H _ eM2
  refine xt_putI dX4_readPart_136 (flX4_204 rfl) ty_5_1 rfl ho1.1 ho1.2 ?_
  rw [← eM2]
  refine xt_iload_n (j := 1) dX4_readPart_139 rfl rfl ?_
  refine xt_callS (h2 := h) (as := [.int x2]) (st := []) dX4_readPart_140 (mlX4_190 rfl) rfl (by first | decide | (simp [Value.category]; done)) (Nat.le_refl _) H (fun r M3 HH hE => ?_)
  obtain ⟨r4, hr, H⟩ := HH hE
  subst hr
  show T _ _ _ _ [.int r4] _ _
  refine xt_if_eq (tgt := 153) dX4_readPart_143 (by decide) (fun hc => ?_) (fun hc => ?_)
  · have H := H.1 hc
    exact xt_sub [2] rfl (VX4_readPart_153 H)
  · have H := H.2 hc
    refine xt_aload_n (j := 0) dX4_readPart_146 rfl rfl ?_
    obtain ⟨ho5, H⟩ := H
    obtain ⟨b6, hb, H⟩ := H
    refine xt_getR dX4_readPart_147 (flX4_14 rfl) ft_6_0 ho5.1 ho5.2 hb ?_
    obtain ⟨ho7, H⟩ := H
    refine xt_callV (h2 := h) (as := []) (st := []) dX4_readPart_150 (mlX4_207 rfl) rfl ho7.1 ⟨by rw [ho7.2]; rfl, by rw [ho7.2]; decide⟩ (by first | decide | (simp [Value.category]; done)) (Nat.le_refl _) H (fun r M8 HH hE => ?_)
    obtain ⟨hr, H⟩ := HH hE
    subst hr
    have ho5 := ok_E ho5 hE
    show T _ _ _ _ [] _ _
    exact xt_sub [2] rfl (VX4_readPart_153 H)
def DX4_readPart_97 (h : Nat) (x0 : Nat) (x1 : Int32) (x2 : Int32) (x3 : Nat) (M : Mem) (Q : Option Value → Mem → Prop) : Prop :=
  ok M x0 6 ∧ ∃ b2 : Nat, mR M x0 0 = some b2 ∧ ok M b2 9 ∧ ∃ b4 : Nat, mR M x0 0 = some b4 ∧ ok M b4 9 ∧ E h mdX7_advance [.ref b4] M (fun r M6 => mE M M6 → r = none ∧ (¬ x2 = 2 → E h mdX4_readBody [.ref x0, .int x2, .ref x3, .int x1] M6 (fun r M7 => mE M6 M7 → ∃ r8 : Int32, r = some (.int r8) ∧ DX4_readPart_136 h x0 x2 x3 x3 r8 M7 Q)) ∧
  (x2 = 2 → E h mdX4_readAssign [.ref x0, .ref x3, .long (mJ M b2 11)] M6 (fun r M9 => mE M6 M9 → ∃ r10 : Int32, r = some (.int r10) ∧ DX4_readPart_136 h x0 x2 x3 x3 r10 M9 Q)))
set_option maxRecDepth 20000 in
set_option maxHeartbeats 2000000 in
theorem VX4_readPart_97 {h : Nat} {x0 : Nat} {x1 : Int32} {x2 : Int32} {x3 : Nat} {M : Mem} {Q : Option Value → Mem → Prop} (H : DX4_readPart_97 h x0 x1 x2 x3 M Q) : T (h + 1) mdX4_readPart 97 [(0, .ref x0), (1, .int x1), (2, .int x2), (3, .ref x3)] [] M Q := by
  unfold DX4_readPart_97 at H
  refine xt_aload_n (j := 0) dX4_readPart_97 rfl rfl ?_
  obtain ⟨ho1, H⟩ := H
  obtain ⟨b2, hb, H⟩ := H
  refine xt_getR dX4_readPart_98 (flX4_14 rfl) ft_6_0 ho1.1 ho1.2 hb ?_
  obtain ⟨ho3, H⟩ := H
  refine xt_getJ dX4_readPart_101 (flX4_126 rfl) ft_9_11 ho3.1 ho3.2 ?_
  refine xt_lstore (lv' := [(4, .long (mJ M b2 11)), (0, .ref x0), (1, .int x1), (2, .int x2), (3, .ref x3)]) dX4_readPart_104 (by decide) rfl ?_
  refine xt_aload_n (j := 1) dX4_readPart_106 rfl rfl ?_
  obtain ⟨b4, hb, H⟩ := H
  refine xt_getR dX4_readPart_107 (flX4_14 rfl) ft_6_0 ho1.1 ho1.2 hb ?_
  obtain ⟨ho5, H⟩ := H
  refine xt_callV (h2 := h) (as := []) (st := []) dX4_readPart_110 (mlX4_117 rfl) rfl ho5.1 ⟨by rw [ho5.2]; rfl, by rw [ho5.2]; decide⟩ (by first | decide | (simp [Value.category]; done)) (Nat.le_refl _) H (fun r M6 HH hE => ?_)
  obtain ⟨hr, H⟩ := HH hE
  subst hr
  have ho1 := ok_E ho1 hE
  show T _ _ _ _ [] _ _
  refine xt_aload_n (j := 4) dX4_readPart_113 rfl rfl ?_
  refine xt_iload_n (j := 3) dX4_readPart_114 rfl rfl ?_
  refine xt_iconst (v := 2) dX4_readPart_115 (by decide) ?_
  refine xt_icmp_ne (tgt := 129) dX4_readPart_116 (by decide) (fun hc => ?_) (fun hc => ?_)
  · have H := H.1 hc
    refine xt_aload_n (j := 1) dX4_readPart_129 rfl rfl ?_
    refine xt_iload_n (j := 3) dX4_readPart_130 rfl rfl ?_
    refine xt_aload_n (j := 4) dX4_readPart_131 rfl rfl ?_
    refine xt_iload_n (j := 2) dX4_readPart_132 rfl rfl ?_
    refine xt_callV (h2 := h) (as := [.int x2, .ref x3, .int x1]) (st := [.ref x3]) dX4_readPart_133 (mlX4_200 rfl) rfl ho1.1 ⟨by rw [ho1.2]; rfl, by rw [ho1.2]; decide⟩ (by first | decide | (simp [Value.category]; done)) (Nat.le_refl _) H (fun r M7 HH hE => ?_)
    obtain ⟨r8, hr, H⟩ := HH hE
    subst hr
    have ho1 := ok_E ho1 hE
    show T _ _ _ _ [.int r8, .ref x3] _ _
    exact xt_sub [1, 3, 4] rfl (VX4_readPart_136 H)
  · have H := H.2 hc
    refine xt_aload_n (j := 1) dX4_readPart_119 rfl rfl ?_
    refine xt_aload_n (j := 4) dX4_readPart_120 rfl rfl ?_
    refine xt_lload (j := 0) dX4_readPart_121 rfl ?_
    refine xt_callV (h2 := h) (as := [.ref x3, .long (mJ M b2 11)]) (st := [.ref x3]) dX4_readPart_123 (mlX4_196 rfl) rfl ho1.1 ⟨by rw [ho1.2]; rfl, by rw [ho1.2]; decide⟩ (by first | decide | (simp [Value.category]; done)) (Nat.le_refl _) H (fun r M9 HH hE => ?_)
    obtain ⟨r10, hr, H⟩ := HH hE
    subst hr
    have ho1 := ok_E ho1 hE
    show T _ _ _ _ [.int r10, .ref x3] _ _
    refine xt_goto (tgt := 136) dX4_readPart_126 (by decide) ?_
    exact xt_sub [1, 3, 4] rfl (VX4_readPart_136 H)
def DX4_readPart_0 (h : Nat) (x0 : Nat) (x1 : Int32) (M : Mem) (Q : Option Value → Mem → Prop) : Prop :=
  ok M x0 6 ∧ ∃ b2 : Nat, mR M x0 0 = some b2 ∧ ok M b2 9 ∧ E h mdX4_checkBegin [.ref x0, .int (mI M b2 9)] M (fun r M4 => mE M M4 → r = none ∧ ∃ b5 : Nat, mR M4 x0 0 = some b5 ∧ ok M4 b5 9 ∧ ((mI M4 b5 12) = 0 → ∀ (q8 : Nat) (M7 : Mem), q8 = mN M4 → M7 = nwO M4 5 13 →
  ∃ b9 : Nat, mR M7 x0 0 = some b9 ∧ ok M7 b9 9 ∧ E h mdX3_init [.ref q8, .int (mI M7 b9 10)] M7 (fun r M11 => mE M7 M11 → r = none ∧ ∃ b12 : Nat, mR M11 x0 7 = some b12 ∧ ok M11 b12 3 ∧ ∃ b14 : Nat, mR M11 b12 6 = some b14 ∧ ok M11 b14 1 ∧ E h mdJx4a65c_add_9ea2d [.ref b14, .ref q8] M11 (fun r M16 => mE M11 M16 → ∃ r17 : Int32, r = some (.int r17) ∧ ∃ b18 : Nat, mR M16 x0 7 = some b18 ∧ ∃ b19 : Nat, mR M16 x0 7 = some b19 ∧ ok M16 b19 3 ∧ ok M16 b18 3 ∧ ∀ M22 : Mem, M22 = wI M16 b18 15 (if (mI M16 b19 15) < x1 then x1 else (mI M16 b19 15)) →
  E h mdX4_pausesOf [.int (mI M b2 9)] M22 (fun r M23 => mE M22 M23 → ∃ r24 : Int32, r = some (.int r24) ∧ ∀ M25 : Mem, M25 = wI M23 x0 4 ((mI M22 x0 4) + r24) →
  E h mdX4_staysOpen [.int (mI M b2 9)] M25 (fun r M26 => mE M25 M26 → ∃ r27 : Int32, r = some (.int r27) ∧ (r27 = 0 → DX4_readPart_97 h x0 x1 (mI M b2 9) q8 M26 Q) ∧
  (¬ (r27 = 0) → ∃ b28 : Nat, mR M26 x0 0 = some b28 ∧ ok M26 b28 9 ∧ E h mdX7_opens [.ref b28] M26 (fun r M30 => mE M26 M30 → r = none ∧ DX4_readPart_97 h x0 x1 (mI M b2 9) q8 M30 Q))))))) ∧
  (¬ ((mI M4 b5 12) = 0) → Q (some (.int 0)) M4))
set_option maxRecDepth 20000 in
set_option maxHeartbeats 2000000 in
theorem VX4_readPart_0 {h : Nat} {x0 : Nat} {x1 : Int32} {M : Mem} {Q : Option Value → Mem → Prop} (H : DX4_readPart_0 h x0 x1 M Q) : T (h + 1) mdX4_readPart 0 [(0, .ref x0), (1, .int x1)] [] M Q := by
  unfold DX4_readPart_0 at H
  refine xt_aload_n (j := 0) dX4_readPart_0 rfl rfl ?_
  obtain ⟨ho1, H⟩ := H
  obtain ⟨b2, hb, H⟩ := H
  refine xt_getR dX4_readPart_1 (flX4_14 rfl) ft_6_0 ho1.1 ho1.2 hb ?_
  obtain ⟨ho3, H⟩ := H
  refine xt_getI dX4_readPart_4 (flX4_66 rfl) ft_9_9 ho3.1 ho3.2 ?_
  refine xt_istore_n (lv' := [(2, .int (mI M b2 9)), (0, .ref x0), (1, .int x1)]) dX4_readPart_7 rfl (by decide) rfl ?_
  refine xt_aload_n (j := 1) dX4_readPart_8 rfl rfl ?_
  refine xt_iload_n (j := 0) dX4_readPart_9 rfl rfl ?_
  refine xt_callV (h2 := h) (as := [.int (mI M b2 9)]) (st := []) dX4_readPart_10 (mlX4_168 rfl) rfl ho1.1 ⟨by rw [ho1.2]; rfl, by rw [ho1.2]; decide⟩ (by first | decide | (simp [Value.category]; done)) (Nat.le_refl _) H (fun r M4 HH hE => ?_)
  obtain ⟨hr, H⟩ := HH hE
  subst hr
  have ho1 := ok_E ho1 hE
  show T _ _ _ _ [] _ _
  refine xt_aload_n (j := 1) dX4_readPart_13 rfl rfl ?_
  obtain ⟨b5, hb, H⟩ := H
  refine xt_getR dX4_readPart_14 (flX4_14 rfl) ft_6_0 ho1.1 ho1.2 hb ?_
  obtain ⟨ho6, H⟩ := H
  refine xt_getI dX4_readPart_17 (flX4_79 rfl) ft_9_12 ho6.1 ho6.2 ?_
  refine xt_if_eq (tgt := 25) dX4_readPart_20 (by decide) (fun hc => ?_) (fun hc => ?_)
  · have H := H.1 hc
    obtain ⟨M7, eM7⟩ : ∃ z, z = nwO M4 5 13 := ⟨_, rfl⟩
    obtain ⟨q8, eq8⟩ : ∃ z, z = mN M4 := ⟨_, rfl⟩
    have H := H _ _ eq8 eM7
    refine xt_new dX4_readPart_25 (nlX4_96 rfl) ?_
    show T _ _ _ _ (.ref (mN M4) :: []) (nwO M4 5 13) _
    have ho1 : ok M7 x0 6 := by rw [eM7]; exact ok_nwO ho1
    rw [← eM7, ← eq8]
    refine xt_dup dX4_readPart_28 rfl ?_
    refine xt_aload_n (j := 1) dX4_readPart_29 rfl rfl ?_
    obtain ⟨b9, hb, H⟩ := H
    refine xt_getR dX4_readPart_30 (flX4_14 rfl) ft_6_0 ho1.1 ho1.2 hb ?_
    obtain ⟨ho10, H⟩ := H
    refine xt_getI dX4_readPart_33 (flX4_171 rfl) ft_9_10 ho10.1 ho10.2 ?_
    refine xt_callI (h2 := h) (as := [.int (mI M7 b9 10)]) (st := [.ref q8]) dX4_readPart_36 (mlX4_172 rfl) rfl (by first | decide | (simp [Value.category]; done)) (Nat.le_refl _) H (fun r M11 HH hE => ?_)
    obtain ⟨hr, H⟩ := HH hE
    subst hr
    have ho1 := ok_E ho1 hE
    show T _ _ _ _ [.ref q8] _ _
    refine xt_astore_n (lv' := [(3, .ref q8), (2, .int (mI M b2 9)), (0, .ref x0), (1, .int x1)]) dX4_readPart_39 rfl (by decide) rfl ?_
    refine xt_aload_n (j := 2) dX4_readPart_40 rfl rfl ?_
    obtain ⟨b12, hb, H⟩ := H
    refine xt_getR dX4_readPart_41 (flX4_31 rfl) ft_6_7 ho1.1 ho1.2 hb ?_
    obtain ⟨ho13, H⟩ := H
    obtain ⟨b14, hb, H⟩ := H
    refine xt_getR dX4_readPart_44 (flX4_82 rfl) ft_3_6 ho13.1 ho13.2 hb ?_
    refine xt_aload_n (j := 0) dX4_readPart_47 rfl rfl ?_
    obtain ⟨ho15, H⟩ := H
    refine xt_callV (h2 := h) (as := [.ref q8]) (st := []) dX4_readPart_48 (mlX4_174 rfl) rfl ho15.1 ⟨by rw [ho15.2]; rfl, by rw [ho15.2]; decide⟩ (by first | decide | (simp [Value.category]; done)) (Nat.le_refl _) H (fun r M16 HH hE => ?_)
    obtain ⟨r17, hr, H⟩ := HH hE
    subst hr
    have ho1 := ok_E ho1 hE
    show T _ _ _ _ [.int r17] _ _
    refine xt_pop dX4_readPart_51 rfl ?_
    refine xt_aload_n (j := 2) dX4_readPart_52 rfl rfl ?_
    obtain ⟨b18, hb, H⟩ := H
    refine xt_getR dX4_readPart_53 (flX4_31 rfl) ft_6_7 ho1.1 ho1.2 hb ?_
    refine xt_aload_n (j := 2) dX4_readPart_56 rfl rfl ?_
    obtain ⟨b19, hb, H⟩ := H
    refine xt_getR dX4_readPart_57 (flX4_31 rfl) ft_6_7 ho1.1 ho1.2 hb ?_
    obtain ⟨ho20, H⟩ := H
    refine xt_getI dX4_readPart_60 (flX4_178 rfl) ft_3_15 ho20.1 ho20.2 ?_
    refine xt_iload_n (j := 3) dX4_readPart_63 rfl rfl ?_
    refine xt_mmax dX4_readPart_64 (mmX4_181 rfl) (Nat.succ_le_succ (Nat.zero_le _)) (by first | decide | (simp [Value.category]; done)) ?_
    obtain ⟨ho21, H⟩ := H
    obtain ⟨M22, eM22⟩ : ∃ z, z = wI M16 b18 15 (if (mI M16 b19 15) < x1 then x1 else (mI M16 b19 15)) := ⟨_, rfl⟩
    have H := H _ eM22
    refine xt_putI dX4_readPart_67 (flX4_178 rfl) ty_3_15 rfl ho21.1 ho21.2 ?_
    have ho1 : ok M22 x0 6 := by rw [eM22]; exact ho1
    rw [← eM22]
    refine xt_aload_n (j := 2) dX4_readPart_70 rfl rfl ?_
    refine xt_dup dX4_readPart_71 rfl ?_
    refine xt_getI dX4_readPart_72 (flX4_39 rfl) ft_6_4 ho1.1 ho1.2 ?_
    refine xt_iload_n (j := 1) dX4_readPart_75 rfl rfl ?_
    refine xt_callS (h2 := h) (as := [.int (mI M b2 9)]) (st := [.int (mI M22 x0 4), .ref x0]) dX4_readPart_76 (mlX4_187 rfl) rfl (by first | decide | (simp [Value.category]; done)) (Nat.le_refl _) H (fun r M23 HH hE => ?_)
    obtain ⟨r24, hr, H⟩ := HH hE
    subst hr
    have ho1 := ok_E ho1 hE
    show T _ _ _ _ [.int r24, .int (mI M22 x0 4), .ref x0] _ _
    refine xt_iadd dX4_readPart_79 ?_
    obtain ⟨M25, eM25⟩ : ∃ z, z = wI M23 x0 4 ((mI M22 x0 4) + r24) := ⟨_, rfl⟩
    have H := H _ eM25
    refine xt_putI dX4_readPart_80 (flX4_39 rfl) ty_6_4 rfl ho1.1 ho1.2 ?_
    have ho1 : ok M25 x0 6 := by rw [eM25]; exact ho1
    rw [← eM25]
    refine xt_iload_n (j := 1) dX4_readPart_83 rfl rfl ?_
    refine xt_callS (h2 := h) (as := [.int (mI M b2 9)]) (st := []) dX4_readPart_84 (mlX4_190 rfl) rfl (by first | decide | (simp [Value.category]; done)) (Nat.le_refl _) H (fun r M26 HH hE => ?_)
    obtain ⟨r27, hr, H⟩ := HH hE
    subst hr
    have ho1 := ok_E ho1 hE
    show T _ _ _ _ [.int r27] _ _
    refine xt_if_eq (tgt := 97) dX4_readPart_87 (by decide) (fun hc => ?_) (fun hc => ?_)
    · have H := H.1 hc
      exact xt_sub [2, 3, 1, 0] rfl (VX4_readPart_97 H)
    · have H := H.2 hc
      refine xt_aload_n (j := 2) dX4_readPart_90 rfl rfl ?_
      obtain ⟨b28, hb, H⟩ := H
      refine xt_getR dX4_readPart_91 (flX4_14 rfl) ft_6_0 ho1.1 ho1.2 hb ?_
      obtain ⟨ho29, H⟩ := H
      refine xt_callV (h2 := h) (as := []) (st := []) dX4_readPart_94 (mlX4_193 rfl) rfl ho29.1 ⟨by rw [ho29.2]; rfl, by rw [ho29.2]; decide⟩ (by first | decide | (simp [Value.category]; done)) (Nat.le_refl _) H (fun r M30 HH hE => ?_)
      obtain ⟨hr, H⟩ := HH hE
      subst hr
      have ho1 := ok_E ho1 hE
      show T _ _ _ _ [] _ _
      exact xt_sub [2, 3, 1, 0] rfl (VX4_readPart_97 H)
  · have H := H.2 hc
    refine xt_iconst (v := 0) dX4_readPart_23 (by decide) ?_
    exact xt_ireturn dX4_readPart_24 rfl H
theorem KX4_readPart {h : Nat} {x0 : Nat} {x1 : Int32} {M : Mem} {Q : Option Value → Mem → Prop} (H : DX4_readPart_0 h x0 x1 M Q) : E (h + 1) mdX4_readPart [.ref x0, .int x1] M Q := E.of (by decide) (Nat.le_of_ble_eq_true rfl) (fun _ _ _ => trivial) (VX4_readPart_0 H)
def DX4_checkBegin_94 (h : Nat) (M : Mem) (Q : Option Value → Mem → Prop) : Prop :=
  Q none M
set_option maxRecDepth 20000 in
set_option maxHeartbeats 2000000 in
theorem VX4_checkBegin_94 {h : Nat} {M : Mem} {Q : Option Value → Mem → Prop} (H : DX4_checkBegin_94 h  M Q) : T (h + 1) mdX4_checkBegin 94 [] [] M Q := by
  unfold DX4_checkBegin_94 at H
  exact xt_return dX4_checkBegin_94 rfl H
def DX4_checkBegin_85 (h : Nat) (x0 : Nat) (M : Mem) (Q : Option Value → Mem → Prop) : Prop :=
  ok M x0 6 ∧ ∃ b2 : Nat, mR M x0 0 = some b2 ∧ ok M b2 9 ∧ E h mdX7_fail [.ref b2, .int 6] M (fun r M4 => mE M M4 → r = none ∧ DX4_checkBegin_94 h  M4 Q)
set_option maxRecDepth 20000 in
set_option maxHeartbeats 2000000 in
theorem VX4_checkBegin_85 {h : Nat} {x0 : Nat} {M : Mem} {Q : Option Value → Mem → Prop} (H : DX4_checkBegin_85 h x0 M Q) : T (h + 1) mdX4_checkBegin 85 [(0, .ref x0)] [] M Q := by
  unfold DX4_checkBegin_85 at H
  refine xt_aload_n (j := 0) dX4_checkBegin_85 rfl rfl ?_
  obtain ⟨ho1, H⟩ := H
  obtain ⟨b2, hb, H⟩ := H
  refine xt_getR dX4_checkBegin_86 (flX4_14 rfl) ft_6_0 ho1.1 ho1.2 hb ?_
  refine xt_bipush (v := 6) dX4_checkBegin_89 (by decide) ?_
  obtain ⟨ho3, H⟩ := H
  refine xt_callV (h2 := h) (as := [.int 6]) (st := []) dX4_checkBegin_91 (mlX4_69 rfl) rfl ho3.1 ⟨by rw [ho3.2]; rfl, by rw [ho3.2]; decide⟩ (by first | decide | (simp [Value.category]; done)) (Nat.le_refl _) H (fun r M4 HH hE => ?_)
  obtain ⟨hr, H⟩ := HH hE
  subst hr
  have ho1 := ok_E ho1 hE
  show T _ _ _ _ [] _ _
  exact xt_sub [] rfl (VX4_checkBegin_94 H)
def DX4_checkBegin_56 (h : Nat) (x0 : Nat) (x1 : Int32) (M : Mem) (Q : Option Value → Mem → Prop) : Prop :=
  ok M x0 6 ∧ ∃ b2 : Nat, mR M x0 7 = some b2 ∧ ok M b2 3 ∧ ∃ b4 : Nat, mR M b2 6 = some b4 ∧ ok M b4 1 ∧ E h mdJx4a65c_size_8abf5 [.ref b4] M (fun r M6 => mE M M6 → ∃ r7 : Int32, r = some (.int r7) ∧ (40 ≤ r7 → DX4_checkBegin_85 h x0 M6 Q) ∧
  (¬ (40 ≤ r7) → E h mdX4_pausesOf [.int x1] M6 (fun r M8 => mE M6 M8 → ∃ r9 : Int32, r = some (.int r9) ∧ (((mI M6 x0 4) + r9) ≤ 24 → DX4_checkBegin_94 h  M8 Q) ∧
  (¬ (((mI M6 x0 4) + r9) ≤ 24) → DX4_checkBegin_85 h x0 M8 Q))))
set_option maxRecDepth 20000 in
set_option maxHeartbeats 2000000 in
theorem VX4_checkBegin_56 {h : Nat} {x0 : Nat} {x1 : Int32} {M : Mem} {Q : Option Value → Mem → Prop} (H : DX4_checkBegin_56 h x0 x1 M Q) : T (h + 1) mdX4_checkBegin 56 [(0, .ref x0), (1, .int x1)] [] M Q := by
  unfold DX4_checkBegin_56 at H
  refine xt_aload_n (j := 0) dX4_checkBegin_56 rfl rfl ?_
  obtain ⟨ho1, H⟩ := H
  obtain ⟨b2, hb, H⟩ := H
  refine xt_getR dX4_checkBegin_57 (flX4_31 rfl) ft_6_7 ho1.1 ho1.2 hb ?_
  obtain ⟨ho3, H⟩ := H
  obtain ⟨b4, hb, H⟩ := H
  refine xt_getR dX4_checkBegin_60 (flX4_82 rfl) ft_3_6 ho3.1 ho3.2 hb ?_
  obtain ⟨ho5, H⟩ := H
  refine xt_callV (h2 := h) (as := []) (st := []) dX4_checkBegin_63 (mlX4_86 rfl) rfl ho5.1 ⟨by rw [ho5.2]; rfl, by rw [ho5.2]; decide⟩ (by first | decide | (simp [Value.category]; done)) (Nat.le_refl _) H (fun r M6 HH hE => ?_)
  obtain ⟨r7, hr, H⟩ := HH hE
  subst hr
  have ho1 := ok_E ho1 hE
  show T _ _ _ _ [.int r7] _ _
  refine xt_bipush (v := 40) dX4_checkBegin_66 (by decide) ?_
  refine xt_icmp_ge (tgt := 85) dX4_checkBegin_68 (by decide) (fun hc => ?_) (fun hc => ?_)
  · have H := H.1 hc
    exact xt_sub [0] rfl (VX4_checkBegin_85 H)
  · have H := H.2 hc
    refine xt_aload_n (j := 0) dX4_checkBegin_71 rfl rfl ?_
    refine xt_getI dX4_checkBegin_72 (flX4_39 rfl) ft_6_4 ho1.1 ho1.2 ?_
    refine xt_iload_n (j := 1) dX4_checkBegin_75 rfl rfl ?_
    refine xt_callS (h2 := h) (as := [.int x1]) (st := [.int (mI M6 x0 4)]) dX4_checkBegin_76 (mlX4_187 rfl) rfl (by first | decide | (simp [Value.category]; done)) (Nat.le_refl _) H (fun r M8 HH hE => ?_)
    obtain ⟨r9, hr, H⟩ := HH hE
    subst hr
    have ho1 := ok_E ho1 hE
    show T _ _ _ _ [.int r9, .int (mI M6 x0 4)] _ _
    refine xt_iadd dX4_checkBegin_79 ?_
    refine xt_bipush (v := 24) dX4_checkBegin_80 (by decide) ?_
    refine xt_icmp_le (tgt := 94) dX4_checkBegin_82 (by decide) (fun hc => ?_) (fun hc => ?_)
    · have H := H.1 hc
      exact xt_sub [] rfl (VX4_checkBegin_94 H)
    · have H := H.2 hc
      exact xt_sub [0] rfl (VX4_checkBegin_85 H)
def DX4_checkBegin_0 (h : Nat) (x0 : Nat) (x1 : Int32) (M : Mem) (Q : Option Value → Mem → Prop) : Prop :=
  (¬ x1 = 2 → E h mdX4_staysOpen [.int x1] M (fun r M1 => mE M M1 → ∃ r2 : Int32, r = some (.int r2) ∧ (¬ r2 = 0 → DX4_checkBegin_56 h x0 x1 M1 Q) ∧
  (r2 = 0 → E h mdX4_standsAlone [.int x1] M1 (fun r M3 => mE M1 M3 → ∃ r4 : Int32, r = some (.int r4) ∧ (¬ r4 = 0 → DX4_checkBegin_56 h x0 x1 M3 Q) ∧
  (r4 = 0 → ok M3 x0 6 ∧ ∃ b6 : Nat, mR M3 x0 0 = some b6 ∧ ok M3 b6 9 ∧ E h mdX7_fail [.ref b6, .int 2] M3 (fun r M8 => mE M3 M8 → r = none ∧ DX4_checkBegin_56 h x0 x1 M8 Q)))))) ∧
  (x1 = 2 → ok M x0 6 ∧ ∃ b10 : Nat, mR M x0 7 = some b10 ∧ ∃ b11 : Nat, mR M x0 0 = some b11 ∧ ok M b11 9 ∧ ok M b10 3 ∧ E h mdX1_variableNamed [.ref b10, .long (mJ M b11 11)] M (fun r M14 => mE M M14 → ∃ r15 : Int32, r = some (.int r15) ∧ (¬ r15 = (-1) → DX4_checkBegin_56 h x0 x1 M14 Q) ∧
  (r15 = (-1) → ∃ b16 : Nat, mR M14 x0 0 = some b16 ∧ ok M14 b16 9 ∧ E h mdX7_fail [.ref b16, .int 4] M14 (fun r M18 => mE M14 M18 → r = none ∧ DX4_checkBegin_56 h x0 x1 M18 Q))))
set_option maxRecDepth 20000 in
set_option maxHeartbeats 2000000 in
theorem VX4_checkBegin_0 {h : Nat} {x0 : Nat} {x1 : Int32} {M : Mem} {Q : Option Value → Mem → Prop} (H : DX4_checkBegin_0 h x0 x1 M Q) : T (h + 1) mdX4_checkBegin 0 [(0, .ref x0), (1, .int x1)] [] M Q := by
  unfold DX4_checkBegin_0 at H
  refine xt_iload_n (j := 1) dX4_checkBegin_0 rfl rfl ?_
  refine xt_iconst (v := 2) dX4_checkBegin_1 (by decide) ?_
  refine xt_icmp_ne (tgt := 34) dX4_checkBegin_2 (by decide) (fun hc => ?_) (fun hc => ?_)
  · have H := H.1 hc
    refine xt_iload_n (j := 1) dX4_checkBegin_34 rfl rfl ?_
    refine xt_callS (h2 := h) (as := [.int x1]) (st := []) dX4_checkBegin_35 (mlX4_190 rfl) rfl (by first | decide | (simp [Value.category]; done)) (Nat.le_refl _) H (fun r M1 HH hE => ?_)
    obtain ⟨r2, hr, H⟩ := HH hE
    subst hr
    show T _ _ _ _ [.int r2] _ _
    refine xt_if_ne (tgt := 56) dX4_checkBegin_38 (by decide) (fun hc => ?_) (fun hc => ?_)
    · have H := H.1 hc
      exact xt_sub [0, 1] rfl (VX4_checkBegin_56 H)
    · have H := H.2 hc
      refine xt_iload_n (j := 1) dX4_checkBegin_41 rfl rfl ?_
      refine xt_callS (h2 := h) (as := [.int x1]) (st := []) dX4_checkBegin_42 (mlX4_214 rfl) rfl (by first | decide | (simp [Value.category]; done)) (Nat.le_refl _) H (fun r M3 HH hE => ?_)
      obtain ⟨r4, hr, H⟩ := HH hE
      subst hr
      show T _ _ _ _ [.int r4] _ _
      refine xt_if_ne (tgt := 56) dX4_checkBegin_45 (by decide) (fun hc => ?_) (fun hc => ?_)
      · have H := H.1 hc
        exact xt_sub [0, 1] rfl (VX4_checkBegin_56 H)
      · have H := H.2 hc
        refine xt_aload_n (j := 0) dX4_checkBegin_48 rfl rfl ?_
        obtain ⟨ho5, H⟩ := H
        obtain ⟨b6, hb, H⟩ := H
        refine xt_getR dX4_checkBegin_49 (flX4_14 rfl) ft_6_0 ho5.1 ho5.2 hb ?_
        refine xt_iconst (v := 2) dX4_checkBegin_52 (by decide) ?_
        obtain ⟨ho7, H⟩ := H
        refine xt_callV (h2 := h) (as := [.int 2]) (st := []) dX4_checkBegin_53 (mlX4_69 rfl) rfl ho7.1 ⟨by rw [ho7.2]; rfl, by rw [ho7.2]; decide⟩ (by first | decide | (simp [Value.category]; done)) (Nat.le_refl _) H (fun r M8 HH hE => ?_)
        obtain ⟨hr, H⟩ := HH hE
        subst hr
        have ho5 := ok_E ho5 hE
        show T _ _ _ _ [] _ _
        exact xt_sub [0, 1] rfl (VX4_checkBegin_56 H)
  · have H := H.2 hc
    refine xt_aload_n (j := 0) dX4_checkBegin_5 rfl rfl ?_
    obtain ⟨ho9, H⟩ := H
    obtain ⟨b10, hb, H⟩ := H
    refine xt_getR dX4_checkBegin_6 (flX4_31 rfl) ft_6_7 ho9.1 ho9.2 hb ?_
    refine xt_aload_n (j := 0) dX4_checkBegin_9 rfl rfl ?_
    obtain ⟨b11, hb, H⟩ := H
    refine xt_getR dX4_checkBegin_10 (flX4_14 rfl) ft_6_0 ho9.1 ho9.2 hb ?_
    obtain ⟨ho12, H⟩ := H
    refine xt_getJ dX4_checkBegin_13 (flX4_126 rfl) ft_9_11 ho12.1 ho12.2 ?_
    obtain ⟨ho13, H⟩ := H
    refine xt_callV (h2 := h) (as := [.long (mJ M b11 11)]) (st := []) dX4_checkBegin_16 (mlX4_210 rfl) rfl ho13.1 ⟨by rw [ho13.2]; rfl, by rw [ho13.2]; decide⟩ (by first | decide | (simp [Value.category]; done)) (Nat.le_refl _) H (fun r M14 HH hE => ?_)
    obtain ⟨r15, hr, H⟩ := HH hE
    subst hr
    have ho9 := ok_E ho9 hE
    show T _ _ _ _ [.int r15] _ _
    refine xt_iconst (v := -1) dX4_checkBegin_19 (by decide) ?_
    refine xt_icmp_ne (tgt := 56) dX4_checkBegin_20 (by decide) (fun hc => ?_) (fun hc => ?_)
    · have H := H.1 hc
      exact xt_sub [0, 1] rfl (VX4_checkBegin_56 H)
    · have H := H.2 hc
      refine xt_aload_n (j := 0) dX4_checkBegin_23 rfl rfl ?_
      obtain ⟨b16, hb, H⟩ := H
      refine xt_getR dX4_checkBegin_24 (flX4_14 rfl) ft_6_0 ho9.1 ho9.2 hb ?_
      refine xt_iconst (v := 4) dX4_checkBegin_27 (by decide) ?_
      obtain ⟨ho17, H⟩ := H
      refine xt_callV (h2 := h) (as := [.int 4]) (st := []) dX4_checkBegin_28 (mlX4_69 rfl) rfl ho17.1 ⟨by rw [ho17.2]; rfl, by rw [ho17.2]; decide⟩ (by first | decide | (simp [Value.category]; done)) (Nat.le_refl _) H (fun r M18 HH hE => ?_)
      obtain ⟨hr, H⟩ := HH hE
      subst hr
      have ho9 := ok_E ho9 hE
      show T _ _ _ _ [] _ _
      refine xt_goto (tgt := 56) dX4_checkBegin_31 (by decide) ?_
      exact xt_sub [0, 1] rfl (VX4_checkBegin_56 H)
theorem KX4_checkBegin {h : Nat} {x0 : Nat} {x1 : Int32} {M : Mem} {Q : Option Value → Mem → Prop} (H : DX4_checkBegin_0 h x0 x1 M Q) : E (h + 1) mdX4_checkBegin [.ref x0, .int x1] M Q := E.of (by decide) (Nat.le_of_ble_eq_true rfl) (fun _ _ _ => trivial) (VX4_checkBegin_0 H)
def DX4_standsAlone_29 (h : Nat) (s0 : Int32) (M : Mem) (Q : Option Value → Mem → Prop) : Prop :=
  (s0 = 0 ∨ s0 = 1) ∧ Q (some (.int s0)) M
set_option maxRecDepth 20000 in
set_option maxHeartbeats 2000000 in
theorem VX4_standsAlone_29 {h : Nat} {s0 : Int32} {M : Mem} {Q : Option Value → Mem → Prop} (H : DX4_standsAlone_29 h s0 M Q) : T (h + 1) mdX4_standsAlone 29 [] [.int s0] M Q := by
  unfold DX4_standsAlone_29 at H
  exact xt_zreturn dX4_standsAlone_29 rfl H.1 H.2
def DX4_standsAlone_24 (h : Nat) (M : Mem) (Q : Option Value → Mem → Prop) : Prop :=
  DX4_standsAlone_29 h 1 M Q
set_option maxRecDepth 20000 in
set_option maxHeartbeats 2000000 in
theorem VX4_standsAlone_24 {h : Nat} {M : Mem} {Q : Option Value → Mem → Prop} (H : DX4_standsAlone_24 h  M Q) : T (h + 1) mdX4_standsAlone 24 [] [] M Q := by
  unfold DX4_standsAlone_24 at H
  refine xt_iconst (v := 1) dX4_standsAlone_24 (by decide) ?_
  refine xt_goto (tgt := 29) dX4_standsAlone_25 (by decide) ?_
  exact xt_sub [] rfl (VX4_standsAlone_29 H)
def DX4_standsAlone_12 (h : Nat) (x0 : Int32) (M : Mem) (Q : Option Value → Mem → Prop) : Prop :=
  (x0 = 47 → DX4_standsAlone_24 h  M Q) ∧
  (¬ (x0 = 47) → (¬ x0 = 57 → DX4_standsAlone_29 h 0 M Q) ∧
  (x0 = 57 → DX4_standsAlone_24 h  M Q))
set_option maxRecDepth 20000 in
set_option maxHeartbeats 2000000 in
theorem VX4_standsAlone_12 {h : Nat} {x0 : Int32} {M : Mem} {Q : Option Value → Mem → Prop} (H : DX4_standsAlone_12 h x0 M Q) : T (h + 1) mdX4_standsAlone 12 [(0, .int x0)] [] M Q := by
  unfold DX4_standsAlone_12 at H
  refine xt_iload_n (j := 0) dX4_standsAlone_12 rfl rfl ?_
  refine xt_bipush (v := 47) dX4_standsAlone_13 (by decide) ?_
  refine xt_icmp_eq (tgt := 24) dX4_standsAlone_15 (by decide) (fun hc => ?_) (fun hc => ?_)
  · have H := H.1 hc
    exact xt_sub [] rfl (VX4_standsAlone_24 H)
  · have H := H.2 hc
    refine xt_iload_n (j := 0) dX4_standsAlone_18 rfl rfl ?_
    refine xt_bipush (v := 57) dX4_standsAlone_19 (by decide) ?_
    refine xt_icmp_ne (tgt := 28) dX4_standsAlone_21 (by decide) (fun hc => ?_) (fun hc => ?_)
    · have H := H.1 hc
      refine xt_iconst (v := 0) dX4_standsAlone_28 (by decide) ?_
      exact xt_sub [] rfl (VX4_standsAlone_29 H)
    · have H := H.2 hc
      exact xt_sub [] rfl (VX4_standsAlone_24 H)
def DX4_standsAlone_0 (h : Nat) (x0 : Int32) (M : Mem) (Q : Option Value → Mem → Prop) : Prop :=
  (x0 < 37 → DX4_standsAlone_12 h x0 M Q) ∧
  (¬ (x0 < 37) → (x0 ≤ 41 → DX4_standsAlone_24 h  M Q) ∧
  (¬ (x0 ≤ 41) → DX4_standsAlone_12 h x0 M Q))
set_option maxRecDepth 20000 in
set_option maxHeartbeats 2000000 in
theorem VX4_standsAlone_0 {h : Nat} {x0 : Int32} {M : Mem} {Q : Option Value → Mem → Prop} (H : DX4_standsAlone_0 h x0 M Q) : T (h + 1) mdX4_standsAlone 0 [(0, .int x0)] [] M Q := by
  unfold DX4_standsAlone_0 at H
  refine xt_iload_n (j := 0) dX4_standsAlone_0 rfl rfl ?_
  refine xt_bipush (v := 37) dX4_standsAlone_1 (by decide) ?_
  refine xt_icmp_lt (tgt := 12) dX4_standsAlone_3 (by decide) (fun hc => ?_) (fun hc => ?_)
  · have H := H.1 hc
    exact xt_sub [0] rfl (VX4_standsAlone_12 H)
  · have H := H.2 hc
    refine xt_iload_n (j := 0) dX4_standsAlone_6 rfl rfl ?_
    refine xt_bipush (v := 41) dX4_standsAlone_7 (by decide) ?_
    refine xt_icmp_le (tgt := 24) dX4_standsAlone_9 (by decide) (fun hc => ?_) (fun hc => ?_)
    · have H := H.1 hc
      exact xt_sub [] rfl (VX4_standsAlone_24 H)
    · have H := H.2 hc
      exact xt_sub [0] rfl (VX4_standsAlone_12 H)
theorem KX4_standsAlone {h : Nat} {x0 : Int32} {M : Mem} {Q : Option Value → Mem → Prop} (H : DX4_standsAlone_0 h x0 M Q) : E (h + 1) mdX4_standsAlone [.int x0] M Q := E.of (by decide) (Nat.le_of_ble_eq_true rfl) (fun _ _ _ => trivial) (VX4_standsAlone_0 H)
def DX4_staysOpen_0 (h : Nat) (x0 : Int32) (M : Mem) (Q : Option Value → Mem → Prop) : Prop :=
  (x0 = 17 → ((1 : Int32) = 0 ∨ (1 : Int32) = 1) ∧ Q (some (.int 1)) M) ∧
  (x0 = 42 → ((1 : Int32) = 0 ∨ (1 : Int32) = 1) ∧ Q (some (.int 1)) M) ∧
  (x0 = 44 → ((1 : Int32) = 0 ∨ (1 : Int32) = 1) ∧ Q (some (.int 1)) M) ∧
  (x0 = 49 → ((1 : Int32) = 0 ∨ (1 : Int32) = 1) ∧ Q (some (.int 1)) M) ∧
  (x0 = 50 → ((1 : Int32) = 0 ∨ (1 : Int32) = 1) ∧ Q (some (.int 1)) M) ∧
  (x0 = 52 → ((1 : Int32) = 0 ∨ (1 : Int32) = 1) ∧ Q (some (.int 1)) M) ∧
  (x0 = 53 → ((1 : Int32) = 0 ∨ (1 : Int32) = 1) ∧ Q (some (.int 1)) M) ∧
  (x0 = 55 → ((1 : Int32) = 0 ∨ (1 : Int32) = 1) ∧ Q (some (.int 1)) M) ∧
  (x0 = 58 → ((1 : Int32) = 0 ∨ (1 : Int32) = 1) ∧ Q (some (.int 1)) M) ∧
  (¬ x0 = 17 ∧ ¬ x0 = 42 ∧ ¬ x0 = 44 ∧ ¬ x0 = 49 ∧ ¬ x0 = 50 ∧ ¬ x0 = 52 ∧ ¬ x0 = 53 ∧ ¬ x0 = 55 ∧ ¬ x0 = 58 → ((0 : Int32) = 0 ∨ (0 : Int32) = 1) ∧ Q (some (.int 0)) M)
set_option maxRecDepth 20000 in
set_option maxHeartbeats 2000000 in
theorem VX4_staysOpen_0 {h : Nat} {x0 : Int32} {M : Mem} {Q : Option Value → Mem → Prop} (H : DX4_staysOpen_0 h x0 M Q) : T (h + 1) mdX4_staysOpen 0 [(0, .int x0)] [] M Q := by
  unfold DX4_staysOpen_0 at H
  refine xt_iload_n (j := 0) dX4_staysOpen_0 rfl rfl ?_
  by_cases hx0 : x0 = 17
  · have H := H.1 hx0
    refine xt_lookup (tgt := 84) dX4_staysOpen_1 (by decide) (by rw [hx0] <;> decide) (by decide) ?_
    refine xt_iconst (v := 1) dX4_staysOpen_84 (by decide) ?_
    exact xt_zreturn dX4_staysOpen_85 rfl H.1 H.2
  by_cases hx1 : x0 = 42
  · have H := H.2.1 hx1
    refine xt_lookup (tgt := 84) dX4_staysOpen_1 (by decide) (by rw [hx1] <;> decide) (by decide) ?_
    refine xt_iconst (v := 1) dX4_staysOpen_84 (by decide) ?_
    exact xt_zreturn dX4_staysOpen_85 rfl H.1 H.2
  by_cases hx2 : x0 = 44
  · have H := H.2.2.1 hx2
    refine xt_lookup (tgt := 84) dX4_staysOpen_1 (by decide) (by rw [hx2] <;> decide) (by decide) ?_
    refine xt_iconst (v := 1) dX4_staysOpen_84 (by decide) ?_
    exact xt_zreturn dX4_staysOpen_85 rfl H.1 H.2
  by_cases hx3 : x0 = 49
  · have H := H.2.2.2.1 hx3
    refine xt_lookup (tgt := 84) dX4_staysOpen_1 (by decide) (by rw [hx3] <;> decide) (by decide) ?_
    refine xt_iconst (v := 1) dX4_staysOpen_84 (by decide) ?_
    exact xt_zreturn dX4_staysOpen_85 rfl H.1 H.2
  by_cases hx4 : x0 = 50
  · have H := H.2.2.2.2.1 hx4
    refine xt_lookup (tgt := 84) dX4_staysOpen_1 (by decide) (by rw [hx4] <;> decide) (by decide) ?_
    refine xt_iconst (v := 1) dX4_staysOpen_84 (by decide) ?_
    exact xt_zreturn dX4_staysOpen_85 rfl H.1 H.2
  by_cases hx5 : x0 = 52
  · have H := H.2.2.2.2.2.1 hx5
    refine xt_lookup (tgt := 84) dX4_staysOpen_1 (by decide) (by rw [hx5] <;> decide) (by decide) ?_
    refine xt_iconst (v := 1) dX4_staysOpen_84 (by decide) ?_
    exact xt_zreturn dX4_staysOpen_85 rfl H.1 H.2
  by_cases hx6 : x0 = 53
  · have H := H.2.2.2.2.2.2.1 hx6
    refine xt_lookup (tgt := 84) dX4_staysOpen_1 (by decide) (by rw [hx6] <;> decide) (by decide) ?_
    refine xt_iconst (v := 1) dX4_staysOpen_84 (by decide) ?_
    exact xt_zreturn dX4_staysOpen_85 rfl H.1 H.2
  by_cases hx7 : x0 = 55
  · have H := H.2.2.2.2.2.2.2.1 hx7
    refine xt_lookup (tgt := 84) dX4_staysOpen_1 (by decide) (by rw [hx7] <;> decide) (by decide) ?_
    refine xt_iconst (v := 1) dX4_staysOpen_84 (by decide) ?_
    exact xt_zreturn dX4_staysOpen_85 rfl H.1 H.2
  by_cases hx8 : x0 = 58
  · have H := H.2.2.2.2.2.2.2.2.1 hx8
    refine xt_lookup (tgt := 84) dX4_staysOpen_1 (by decide) (by rw [hx8] <;> decide) (by decide) ?_
    refine xt_iconst (v := 1) dX4_staysOpen_84 (by decide) ?_
    exact xt_zreturn dX4_staysOpen_85 rfl H.1 H.2
  have H := H.2.2.2.2.2.2.2.2.2 ⟨hx0, hx1, hx2, hx3, hx4, hx5, hx6, hx7, hx8⟩
  have hn0 : ¬ (17 : Int) = (x0 : Int32).toInt := fun q => hx0 (i32_ofInt q.symm)
  have hn1 : ¬ (42 : Int) = (x0 : Int32).toInt := fun q => hx1 (i32_ofInt q.symm)
  have hn2 : ¬ (44 : Int) = (x0 : Int32).toInt := fun q => hx2 (i32_ofInt q.symm)
  have hn3 : ¬ (49 : Int) = (x0 : Int32).toInt := fun q => hx3 (i32_ofInt q.symm)
  have hn4 : ¬ (50 : Int) = (x0 : Int32).toInt := fun q => hx4 (i32_ofInt q.symm)
  have hn5 : ¬ (52 : Int) = (x0 : Int32).toInt := fun q => hx5 (i32_ofInt q.symm)
  have hn6 : ¬ (53 : Int) = (x0 : Int32).toInt := fun q => hx6 (i32_ofInt q.symm)
  have hn7 : ¬ (55 : Int) = (x0 : Int32).toInt := fun q => hx7 (i32_ofInt q.symm)
  have hn8 : ¬ (58 : Int) = (x0 : Int32).toInt := fun q => hx8 (i32_ofInt q.symm)
  refine xt_lookup (off := 85) (tgt := 86) dX4_staysOpen_1 (by decide) (by simp [Op.lookupswitch.offset, hn0, hn1, hn2, hn3, hn4, hn5, hn6, hn7, hn8]) (by decide) ?_
  refine xt_iconst (v := 0) dX4_staysOpen_86 (by decide) ?_
  exact xt_zreturn dX4_staysOpen_87 rfl H.1 H.2
theorem KX4_staysOpen {h : Nat} {x0 : Int32} {M : Mem} {Q : Option Value → Mem → Prop} (H : DX4_staysOpen_0 h x0 M Q) : E (h + 1) mdX4_staysOpen [.int x0] M Q := E.of (by decide) (Nat.le_of_ble_eq_true rfl) (fun _ _ _ => trivial) (VX4_staysOpen_0 H)
def DX4_pausesOf_0 (h : Nat) (x0 : Int32) (M : Mem) (Q : Option Value → Mem → Prop) : Prop :=
  (x0 = 38 → Q (some (.int 1)) M) ∧
  (x0 = 39 → Q (some (.int 1)) M) ∧
  (x0 = 40 → Q (some (.int 0)) M) ∧
  (x0 = 41 → Q (some (.int 1)) M) ∧
  (x0 = 42 → Q (some (.int 0)) M) ∧
  (x0 = 43 → Q (some (.int 0)) M) ∧
  (x0 = 44 → Q (some (.int 0)) M) ∧
  (x0 = 45 → Q (some (.int 0)) M) ∧
  (x0 = 46 → Q (some (.int 0)) M) ∧
  (x0 = 47 → Q (some (.int 1)) M) ∧
  (x0 = 48 → Q (some (.int 0)) M) ∧
  (x0 = 49 → Q (some (.int 1)) M) ∧
  (x0 = 50 → Q (some (.int 1)) M) ∧
  (x0 = 51 → Q (some (.int 0)) M) ∧
  (x0 = 52 → Q (some (.int 0)) M) ∧
  (x0 = 53 → Q (some (.int 3)) M) ∧
  (((x0 : Int32).toInt < 38 ∨ 53 < (x0 : Int32).toInt) → Q (some (.int 0)) M)
set_option maxRecDepth 20000 in
set_option maxHeartbeats 2000000 in
theorem VX4_pausesOf_0 {h : Nat} {x0 : Int32} {M : Mem} {Q : Option Value → Mem → Prop} (H : DX4_pausesOf_0 h x0 M Q) : T (h + 1) mdX4_pausesOf 0 [(0, .int x0)] [] M Q := by
  unfold DX4_pausesOf_0 at H
  refine xt_iload_n (j := 0) dX4_pausesOf_0 rfl rfl ?_
  by_cases hsw : (x0 : Int32).toInt < 38 ∨ 53 < (x0 : Int32).toInt
  · refine xt_tableOut (tgt := 84) dX4_pausesOf_1 hsw (by decide) ?_
    have H := H.2.2.2.2.2.2.2.2.2.2.2.2.2.2.2.2 hsw
    refine xt_iconst (v := 0) dX4_pausesOf_84 (by decide) ?_
    exact xt_ireturn dX4_pausesOf_85 rfl H
  · have hsw2 : (x0 : Int32).toInt = 38 ∨ (x0 : Int32).toInt = 39 ∨ (x0 : Int32).toInt = 40 ∨ (x0 : Int32).toInt = 41 ∨ (x0 : Int32).toInt = 42 ∨ (x0 : Int32).toInt = 43 ∨ (x0 : Int32).toInt = 44 ∨ (x0 : Int32).toInt = 45 ∨ (x0 : Int32).toInt = 46 ∨ (x0 : Int32).toInt = 47 ∨ (x0 : Int32).toInt = 48 ∨ (x0 : Int32).toInt = 49 ∨ (x0 : Int32).toInt = 50 ∨ (x0 : Int32).toInt = 51 ∨ (x0 : Int32).toInt = 52 ∨ (x0 : Int32).toInt = 53 := by omega
    rcases hsw2 with hv | hv | hv | hv | hv | hv | hv | hv | hv | hv | hv | hv | hv | hv | hv | hv
    · have hx : x0 = 38 := i32_ofInt hv
      have H := H.1 hx
      refine xt_tableIn (tgt := 80) dX4_pausesOf_1 (by omega) (by omega) (by rw [hv]; rfl) (by decide) ?_
      refine xt_iconst (v := 1) dX4_pausesOf_80 (by decide) ?_
      exact xt_ireturn dX4_pausesOf_81 rfl H
    · have hx : x0 = 39 := i32_ofInt hv
      have H := H.2.1 hx
      refine xt_tableIn (tgt := 80) dX4_pausesOf_1 (by omega) (by omega) (by rw [hv]; rfl) (by decide) ?_
      refine xt_iconst (v := 1) dX4_pausesOf_80 (by decide) ?_
      exact xt_ireturn dX4_pausesOf_81 rfl H
    · have hx : x0 = 40 := i32_ofInt hv
      have H := H.2.2.1 hx
      refine xt_tableIn (tgt := 84) dX4_pausesOf_1 (by omega) (by omega) (by rw [hv]; rfl) (by decide) ?_
      refine xt_iconst (v := 0) dX4_pausesOf_84 (by decide) ?_
      exact xt_ireturn dX4_pausesOf_85 rfl H
    · have hx : x0 = 41 := i32_ofInt hv
      have H := H.2.2.2.1 hx
      refine xt_tableIn (tgt := 80) dX4_pausesOf_1 (by omega) (by omega) (by rw [hv]; rfl) (by decide) ?_
      refine xt_iconst (v := 1) dX4_pausesOf_80 (by decide) ?_
      exact xt_ireturn dX4_pausesOf_81 rfl H
    · have hx : x0 = 42 := i32_ofInt hv
      have H := H.2.2.2.2.1 hx
      refine xt_tableIn (tgt := 84) dX4_pausesOf_1 (by omega) (by omega) (by rw [hv]; rfl) (by decide) ?_
      refine xt_iconst (v := 0) dX4_pausesOf_84 (by decide) ?_
      exact xt_ireturn dX4_pausesOf_85 rfl H
    · have hx : x0 = 43 := i32_ofInt hv
      have H := H.2.2.2.2.2.1 hx
      refine xt_tableIn (tgt := 84) dX4_pausesOf_1 (by omega) (by omega) (by rw [hv]; rfl) (by decide) ?_
      refine xt_iconst (v := 0) dX4_pausesOf_84 (by decide) ?_
      exact xt_ireturn dX4_pausesOf_85 rfl H
    · have hx : x0 = 44 := i32_ofInt hv
      have H := H.2.2.2.2.2.2.1 hx
      refine xt_tableIn (tgt := 84) dX4_pausesOf_1 (by omega) (by omega) (by rw [hv]; rfl) (by decide) ?_
      refine xt_iconst (v := 0) dX4_pausesOf_84 (by decide) ?_
      exact xt_ireturn dX4_pausesOf_85 rfl H
    · have hx : x0 = 45 := i32_ofInt hv
      have H := H.2.2.2.2.2.2.2.1 hx
      refine xt_tableIn (tgt := 84) dX4_pausesOf_1 (by omega) (by omega) (by rw [hv]; rfl) (by decide) ?_
      refine xt_iconst (v := 0) dX4_pausesOf_84 (by decide) ?_
      exact xt_ireturn dX4_pausesOf_85 rfl H
    · have hx : x0 = 46 := i32_ofInt hv
      have H := H.2.2.2.2.2.2.2.2.1 hx
      refine xt_tableIn (tgt := 84) dX4_pausesOf_1 (by omega) (by omega) (by rw [hv]; rfl) (by decide) ?_
      refine xt_iconst (v := 0) dX4_pausesOf_84 (by decide) ?_
      exact xt_ireturn dX4_pausesOf_85 rfl H
    · have hx : x0 = 47 := i32_ofInt hv
      have H := H.2.2.2.2.2.2.2.2.2.1 hx
      refine xt_tableIn (tgt := 80) dX4_pausesOf_1 (by omega) (by omega) (by rw [hv]; rfl) (by decide) ?_
      refine xt_iconst (v := 1) dX4_pausesOf_80 (by decide) ?_
      exact xt_ireturn dX4_pausesOf_81 rfl H
    · have hx : x0 = 48 := i32_ofInt hv
      have H := H.2.2.2.2.2.2.2.2.2.2.1 hx
      refine xt_tableIn (tgt := 84) dX4_pausesOf_1 (by omega) (by omega) (by rw [hv]; rfl) (by decide) ?_
      refine xt_iconst (v := 0) dX4_pausesOf_84 (by decide) ?_
      exact xt_ireturn dX4_pausesOf_85 rfl H
    · have hx : x0 = 49 := i32_ofInt hv
      have H := H.2.2.2.2.2.2.2.2.2.2.2.1 hx
      refine xt_tableIn (tgt := 80) dX4_pausesOf_1 (by omega) (by omega) (by rw [hv]; rfl) (by decide) ?_
      refine xt_iconst (v := 1) dX4_pausesOf_80 (by decide) ?_
      exact xt_ireturn dX4_pausesOf_81 rfl H
    · have hx : x0 = 50 := i32_ofInt hv
      have H := H.2.2.2.2.2.2.2.2.2.2.2.2.1 hx
      refine xt_tableIn (tgt := 80) dX4_pausesOf_1 (by omega) (by omega) (by rw [hv]; rfl) (by decide) ?_
      refine xt_iconst (v := 1) dX4_pausesOf_80 (by decide) ?_
      exact xt_ireturn dX4_pausesOf_81 rfl H
    · have hx : x0 = 51 := i32_ofInt hv
      have H := H.2.2.2.2.2.2.2.2.2.2.2.2.2.1 hx
      refine xt_tableIn (tgt := 84) dX4_pausesOf_1 (by omega) (by omega) (by rw [hv]; rfl) (by decide) ?_
      refine xt_iconst (v := 0) dX4_pausesOf_84 (by decide) ?_
      exact xt_ireturn dX4_pausesOf_85 rfl H
    · have hx : x0 = 52 := i32_ofInt hv
      have H := H.2.2.2.2.2.2.2.2.2.2.2.2.2.2.1 hx
      refine xt_tableIn (tgt := 84) dX4_pausesOf_1 (by omega) (by omega) (by rw [hv]; rfl) (by decide) ?_
      refine xt_iconst (v := 0) dX4_pausesOf_84 (by decide) ?_
      exact xt_ireturn dX4_pausesOf_85 rfl H
    · have hx : x0 = 53 := i32_ofInt hv
      have H := H.2.2.2.2.2.2.2.2.2.2.2.2.2.2.2.1 hx
      refine xt_tableIn (tgt := 82) dX4_pausesOf_1 (by omega) (by omega) (by rw [hv]; rfl) (by decide) ?_
      refine xt_iconst (v := 3) dX4_pausesOf_82 (by decide) ?_
      exact xt_ireturn dX4_pausesOf_83 rfl H
theorem KX4_pausesOf {h : Nat} {x0 : Int32} {M : Mem} {Q : Option Value → Mem → Prop} (H : DX4_pausesOf_0 h x0 M Q) : E (h + 1) mdX4_pausesOf [.int x0] M Q := E.of (by decide) (Nat.le_of_ble_eq_true rfl) (fun _ _ _ => trivial) (VX4_pausesOf_0 H)
def DX4_readBody_0 (h : Nat) (x0 : Nat) (x1 : Int32) (x2 : Nat) (x3 : Int32) (M : Mem) (Q : Option Value → Mem → Prop) : Prop :=
  (x1 = 17 → ok M x0 6 ∧ E h mdX4_readBranches [.ref x0, .ref x2, .int x3] M (fun r M2 => mE M M2 → ∃ r3 : Int32, r = some (.int r3) ∧ Q (some (.int r3)) M2)) ∧
  (x1 = 18 → ok M x0 6 ∧ ∃ b5 : Nat, mR M x0 1 = some b5 ∧ ok M b5 10 ∧ E h mdX8_make [.ref b5, .int 0] M (fun r M7 => mE M M7 → ∃ r8 : Int32, r = some (.int r8) ∧ Q (some (.int r8)) M7)) ∧
  (x1 = 19 → ok M x0 6 ∧ ∃ b10 : Nat, mR M x0 1 = some b10 ∧ ok M b10 10 ∧ E h mdX8_make [.ref b10, .int 0] M (fun r M12 => mE M M12 → ∃ r13 : Int32, r = some (.int r13) ∧ Q (some (.int r13)) M12)) ∧
  (x1 = 20 → ok M x0 6 ∧ ∃ b15 : Nat, mR M x0 1 = some b15 ∧ ok M b15 10 ∧ E h mdX8_make [.ref b15, .int 0] M (fun r M17 => mE M M17 → ∃ r18 : Int32, r = some (.int r18) ∧ Q (some (.int r18)) M17)) ∧
  (x1 = 21 → ok M x0 6 ∧ ∃ b20 : Nat, mR M x0 1 = some b20 ∧ ok M b20 10 ∧ E h mdX8_make [.ref b20, .int 0] M (fun r M22 => mE M M22 → ∃ r23 : Int32, r = some (.int r23) ∧ Q (some (.int r23)) M22)) ∧
  (x1 = 22 → ok M x0 6 ∧ ∃ b25 : Nat, mR M x0 1 = some b25 ∧ ok M b25 10 ∧ E h mdX8_make [.ref b25, .int 0] M (fun r M27 => mE M M27 → ∃ r28 : Int32, r = some (.int r28) ∧ Q (some (.int r28)) M27)) ∧
  (x1 = 23 → ok M x0 6 ∧ ∃ b30 : Nat, mR M x0 1 = some b30 ∧ ok M b30 10 ∧ E h mdX8_make [.ref b30, .int 0] M (fun r M32 => mE M M32 → ∃ r33 : Int32, r = some (.int r33) ∧ Q (some (.int r33)) M32)) ∧
  (x1 = 24 → ok M x0 6 ∧ ∃ b35 : Nat, mR M x0 1 = some b35 ∧ ok M b35 10 ∧ E h mdX8_make [.ref b35, .int 0] M (fun r M37 => mE M M37 → ∃ r38 : Int32, r = some (.int r38) ∧ Q (some (.int r38)) M37)) ∧
  (x1 = 25 → ok M x0 6 ∧ ∃ b40 : Nat, mR M x0 1 = some b40 ∧ ok M b40 10 ∧ E h mdX8_make [.ref b40, .int 0] M (fun r M42 => mE M M42 → ∃ r43 : Int32, r = some (.int r43) ∧ Q (some (.int r43)) M42)) ∧
  (x1 = 26 → ok M x0 6 ∧ ∃ b45 : Nat, mR M x0 1 = some b45 ∧ ok M b45 10 ∧ E h mdX8_make [.ref b45, .int 0] M (fun r M47 => mE M M47 → ∃ r48 : Int32, r = some (.int r48) ∧ Q (some (.int r48)) M47)) ∧
  (x1 = 27 → ok M x0 6 ∧ ∃ b50 : Nat, mR M x0 1 = some b50 ∧ ok M b50 10 ∧ E h mdX8_make [.ref b50, .int 0] M (fun r M52 => mE M M52 → ∃ r53 : Int32, r = some (.int r53) ∧ Q (some (.int r53)) M52)) ∧
  (x1 = 28 → ok M x0 6 ∧ ∃ b55 : Nat, mR M x0 1 = some b55 ∧ ok M b55 10 ∧ E h mdX8_make [.ref b55, .int 0] M (fun r M57 => mE M M57 → ∃ r58 : Int32, r = some (.int r58) ∧ Q (some (.int r58)) M57)) ∧
  (x1 = 29 → ok M x0 6 ∧ ∃ b60 : Nat, mR M x0 1 = some b60 ∧ ok M b60 10 ∧ E h mdX8_make [.ref b60, .int 0] M (fun r M62 => mE M M62 → ∃ r63 : Int32, r = some (.int r63) ∧ Q (some (.int r63)) M62)) ∧
  (x1 = 30 → ok M x0 6 ∧ ∃ b65 : Nat, mR M x0 1 = some b65 ∧ ok M b65 10 ∧ E h mdX8_make [.ref b65, .int 0] M (fun r M67 => mE M M67 → ∃ r68 : Int32, r = some (.int r68) ∧ Q (some (.int r68)) M67)) ∧
  (x1 = 31 → ok M x0 6 ∧ ∃ b70 : Nat, mR M x0 1 = some b70 ∧ ok M b70 10 ∧ E h mdX8_make [.ref b70, .int 0] M (fun r M72 => mE M M72 → ∃ r73 : Int32, r = some (.int r73) ∧ Q (some (.int r73)) M72)) ∧
  (x1 = 32 → ok M x0 6 ∧ ∃ b75 : Nat, mR M x0 1 = some b75 ∧ ok M b75 10 ∧ E h mdX8_make [.ref b75, .int 0] M (fun r M77 => mE M M77 → ∃ r78 : Int32, r = some (.int r78) ∧ Q (some (.int r78)) M77)) ∧
  (x1 = 33 → ok M x0 6 ∧ ∃ b80 : Nat, mR M x0 1 = some b80 ∧ ok M b80 10 ∧ E h mdX8_make [.ref b80, .int 0] M (fun r M82 => mE M M82 → ∃ r83 : Int32, r = some (.int r83) ∧ Q (some (.int r83)) M82)) ∧
  (x1 = 34 → ok M x0 6 ∧ ∃ b85 : Nat, mR M x0 1 = some b85 ∧ ok M b85 10 ∧ E h mdX8_make [.ref b85, .int 0] M (fun r M87 => mE M M87 → ∃ r88 : Int32, r = some (.int r88) ∧ Q (some (.int r88)) M87)) ∧
  (x1 = 35 → ok M x0 6 ∧ ∃ b90 : Nat, mR M x0 1 = some b90 ∧ ok M b90 10 ∧ E h mdX8_make [.ref b90, .int 0] M (fun r M92 => mE M M92 → ∃ r93 : Int32, r = some (.int r93) ∧ Q (some (.int r93)) M92)) ∧
  (x1 = 36 → ok M x0 6 ∧ ∃ b95 : Nat, mR M x0 1 = some b95 ∧ ok M b95 10 ∧ E h mdX8_make [.ref b95, .int 0] M (fun r M97 => mE M M97 → ∃ r98 : Int32, r = some (.int r98) ∧ Q (some (.int r98)) M97)) ∧
  (x1 = 37 → ok M x0 6 ∧ ∃ b100 : Nat, mR M x0 1 = some b100 ∧ ok M b100 10 ∧ E h mdX8_make [.ref b100, .int 0] M (fun r M102 => mE M M102 → ∃ r103 : Int32, r = some (.int r103) ∧ Q (some (.int r103)) M102)) ∧
  (x1 = 38 → ok M x0 6 ∧ ∃ b105 : Nat, mR M x0 1 = some b105 ∧ ok M b105 10 ∧ E h mdX8_pauseNode [.ref b105] M (fun r M107 => mE M M107 → ∃ r108 : Int32, r = some (.int r108) ∧ Q (some (.int r108)) M107)) ∧
  (x1 = 39 → ok M x0 6 ∧ ∃ b110 : Nat, mR M x0 1 = some b110 ∧ ok M b110 10 ∧ E h mdX8_halt [.ref b110] M (fun r M112 => mE M M112 → ∃ r113 : Int32, r = some (.int r113) ∧ Q (some (.int r113)) M112)) ∧
  (x1 = 40 → ok M x0 6 ∧ E h mdX4_readEmit [.ref x0, .ref x2] M (fun r M115 => mE M M115 → ∃ r116 : Int32, r = some (.int r116) ∧ Q (some (.int r116)) M115)) ∧
  (x1 = 41 → ok M x0 6 ∧ E h mdX4_readSustain [.ref x0] M (fun r M118 => mE M M118 → ∃ r119 : Int32, r = some (.int r119) ∧ Q (some (.int r119)) M118)) ∧
  (x1 = 42 → ok M x0 6 ∧ E h mdX4_readLoop [.ref x0, .ref x2, .int x3] M (fun r M121 => mE M M121 → ∃ r122 : Int32, r = some (.int r122) ∧ Q (some (.int r122)) M121)) ∧
  (x1 = 43 → ok M x0 6 ∧ ∃ b124 : Nat, mR M x0 1 = some b124 ∧ ok M b124 10 ∧ E h mdX8_make [.ref b124, .int 0] M (fun r M126 => mE M M126 → ∃ r127 : Int32, r = some (.int r127) ∧ Q (some (.int r127)) M126)) ∧
  (x1 = 44 → ok M x0 6 ∧ E h mdX4_readCondition [.ref x0] M (fun r M129 => mE M M129 → ∃ r130 : Int32, r = some (.int r130) ∧ E h mdX4_readChoice [.ref x0, .int r130, .int x3] M129 (fun r M131 => mE M129 M131 → ∃ r132 : Int32, r = some (.int r132) ∧ Q (some (.int r132)) M131))) ∧
  (x1 = 45 → ok M x0 6 ∧ ∃ b134 : Nat, mR M x0 1 = some b134 ∧ ok M b134 10 ∧ E h mdX8_make [.ref b134, .int 0] M (fun r M136 => mE M M136 → ∃ r137 : Int32, r = some (.int r137) ∧ Q (some (.int r137)) M136)) ∧
  (x1 = 46 → ok M x0 6 ∧ ∃ b139 : Nat, mR M x0 1 = some b139 ∧ ok M b139 10 ∧ E h mdX8_make [.ref b139, .int 0] M (fun r M141 => mE M M141 → ∃ r142 : Int32, r = some (.int r142) ∧ Q (some (.int r142)) M141)) ∧
  (x1 = 47 → ok M x0 6 ∧ ∃ b144 : Nat, mR M x0 0 = some b144 ∧ ok M b144 9 ∧ E h mdX7_accept [.ref b144, .int 48] M (fun r M146 => mE M M146 → ∃ r147 : Int32, r = some (.int r147) ∧ ∃ b148 : Nat, mR M146 x0 1 = some b148 ∧ E h mdX4_readCondition [.ref x0] M146 (fun r M149 => mE M146 M149 → ∃ r150 : Int32, r = some (.int r150) ∧ ok M149 b148 10 ∧ E h mdX8_await [.ref b148, .int r150, .int r147] M149 (fun r M152 => mE M149 M152 → ∃ r153 : Int32, r = some (.int r153) ∧ Q (some (.int r153)) M152)))) ∧
  (x1 = 48 → ok M x0 6 ∧ ∃ b155 : Nat, mR M x0 1 = some b155 ∧ ok M b155 10 ∧ E h mdX8_make [.ref b155, .int 0] M (fun r M157 => mE M M157 → ∃ r158 : Int32, r = some (.int r158) ∧ Q (some (.int r158)) M157)) ∧
  (x1 = 49 → ok M x0 6 ∧ E h mdX4_readAbort [.ref x0, .int x3] M (fun r M160 => mE M M160 → ∃ r161 : Int32, r = some (.int r161) ∧ Q (some (.int r161)) M160)) ∧
  (x1 = 50 → ok M x0 6 ∧ E h mdX4_readWeak [.ref x0, .int x3] M (fun r M163 => mE M M163 → ∃ r164 : Int32, r = some (.int r164) ∧ Q (some (.int r164)) M163)) ∧
  (x1 = 51 → ok M x0 6 ∧ ∃ b166 : Nat, mR M x0 1 = some b166 ∧ ok M b166 10 ∧ E h mdX8_make [.ref b166, .int 0] M (fun r M168 => mE M M168 → ∃ r169 : Int32, r = some (.int r169) ∧ Q (some (.int r169)) M168)) ∧
  (x1 = 52 → ok M x0 6 ∧ E h mdX4_readSuspend [.ref x0, .int x3] M (fun r M171 => mE M M171 → ∃ r172 : Int32, r = some (.int r172) ∧ Q (some (.int r172)) M171)) ∧
  (x1 = 53 → ok M x0 6 ∧ E h mdX4_readEvery [.ref x0, .int x3] M (fun r M174 => mE M M174 → ∃ r175 : Int32, r = some (.int r175) ∧ Q (some (.int r175)) M174)) ∧
  (x1 = 54 → ok M x0 6 ∧ ∃ b177 : Nat, mR M x0 1 = some b177 ∧ ok M b177 10 ∧ E h mdX8_make [.ref b177, .int 0] M (fun r M179 => mE M M179 → ∃ r180 : Int32, r = some (.int r180) ∧ Q (some (.int r180)) M179)) ∧
  (x1 = 55 → ok M x0 6 ∧ E h mdX4_readTrap [.ref x0, .int x3] M (fun r M182 => mE M M182 → ∃ r183 : Int32, r = some (.int r183) ∧ Q (some (.int r183)) M182)) ∧
  (x1 = 56 → ok M x0 6 ∧ ∃ b185 : Nat, mR M x0 1 = some b185 ∧ ok M b185 10 ∧ E h mdX8_make [.ref b185, .int 0] M (fun r M187 => mE M M187 → ∃ r188 : Int32, r = some (.int r188) ∧ Q (some (.int r188)) M187)) ∧
  (x1 = 57 → ok M x0 6 ∧ E h mdX4_readExit [.ref x0] M (fun r M190 => mE M M190 → ∃ r191 : Int32, r = some (.int r191) ∧ Q (some (.int r191)) M190)) ∧
  (x1 = 58 → ok M x0 6 ∧ E h mdX4_readComparison [.ref x0, .ref x2] M (fun r M193 => mE M M193 → ∃ r194 : Int32, r = some (.int r194) ∧ E h mdX4_readChoice [.ref x0, .int r194, .int x3] M193 (fun r M195 => mE M193 M195 → ∃ r196 : Int32, r = some (.int r196) ∧ Q (some (.int r196)) M195))) ∧
  (((x1 : Int32).toInt < 17 ∨ 58 < (x1 : Int32).toInt) → ok M x0 6 ∧ ∃ b198 : Nat, mR M x0 1 = some b198 ∧ ok M b198 10 ∧ E h mdX8_make [.ref b198, .int 0] M (fun r M200 => mE M M200 → ∃ r201 : Int32, r = some (.int r201) ∧ Q (some (.int r201)) M200))
set_option maxRecDepth 20000 in
set_option maxHeartbeats 2000000 in
theorem VX4_readBody_0 {h : Nat} {x0 : Nat} {x1 : Int32} {x2 : Nat} {x3 : Int32} {M : Mem} {Q : Option Value → Mem → Prop} (H : DX4_readBody_0 h x0 x1 x2 x3 M Q) : T (h + 1) mdX4_readBody 0 [(0, .ref x0), (1, .int x1), (2, .ref x2), (3, .int x3)] [] M Q := by
  unfold DX4_readBody_0 at H
  refine xt_iload_n (j := 1) dX4_readBody_0 rfl rfl ?_
  by_cases hsw : (x1 : Int32).toInt < 17 ∨ 58 < (x1 : Int32).toInt
  · refine xt_tableOut (tgt := 306) dX4_readBody_1 hsw (by decide) ?_
    have H := H.2.2.2.2.2.2.2.2.2.2.2.2.2.2.2.2.2.2.2.2.2.2.2.2.2.2.2.2.2.2.2.2.2.2.2.2.2.2.2.2.2.2 hsw
    refine xt_aload_n (j := 0) dX4_readBody_306 rfl rfl ?_
    obtain ⟨ho197, H⟩ := H
    obtain ⟨b198, hb, H⟩ := H
    refine xt_getR dX4_readBody_307 (flX4_20 rfl) ft_6_1 ho197.1 ho197.2 hb ?_
    refine xt_iconst (v := 0) dX4_readBody_310 (by decide) ?_
    obtain ⟨ho199, H⟩ := H
    refine xt_callV (h2 := h) (as := [.int 0]) (st := []) dX4_readBody_311 (mlX4_159 rfl) rfl ho199.1 ⟨by rw [ho199.2]; rfl, by rw [ho199.2]; decide⟩ (by first | decide | (simp [Value.category]; done)) (Nat.le_refl _) H (fun r M200 HH hE => ?_)
    obtain ⟨r201, hr, H⟩ := HH hE
    subst hr
    have ho197 := ok_E ho197 hE
    show T _ _ _ _ [.int r201] _ _
    exact xt_ireturn dX4_readBody_314 rfl H
  · have hsw2 : (x1 : Int32).toInt = 17 ∨ (x1 : Int32).toInt = 18 ∨ (x1 : Int32).toInt = 19 ∨ (x1 : Int32).toInt = 20 ∨ (x1 : Int32).toInt = 21 ∨ (x1 : Int32).toInt = 22 ∨ (x1 : Int32).toInt = 23 ∨ (x1 : Int32).toInt = 24 ∨ (x1 : Int32).toInt = 25 ∨ (x1 : Int32).toInt = 26 ∨ (x1 : Int32).toInt = 27 ∨ (x1 : Int32).toInt = 28 ∨ (x1 : Int32).toInt = 29 ∨ (x1 : Int32).toInt = 30 ∨ (x1 : Int32).toInt = 31 ∨ (x1 : Int32).toInt = 32 ∨ (x1 : Int32).toInt = 33 ∨ (x1 : Int32).toInt = 34 ∨ (x1 : Int32).toInt = 35 ∨ (x1 : Int32).toInt = 36 ∨ (x1 : Int32).toInt = 37 ∨ (x1 : Int32).toInt = 38 ∨ (x1 : Int32).toInt = 39 ∨ (x1 : Int32).toInt = 40 ∨ (x1 : Int32).toInt = 41 ∨ (x1 : Int32).toInt = 42 ∨ (x1 : Int32).toInt = 43 ∨ (x1 : Int32).toInt = 44 ∨ (x1 : Int32).toInt = 45 ∨ (x1 : Int32).toInt = 46 ∨ (x1 : Int32).toInt = 47 ∨ (x1 : Int32).toInt = 48 ∨ (x1 : Int32).toInt = 49 ∨ (x1 : Int32).toInt = 50 ∨ (x1 : Int32).toInt = 51 ∨ (x1 : Int32).toInt = 52 ∨ (x1 : Int32).toInt = 53 ∨ (x1 : Int32).toInt = 54 ∨ (x1 : Int32).toInt = 55 ∨ (x1 : Int32).toInt = 56 ∨ (x1 : Int32).toInt = 57 ∨ (x1 : Int32).toInt = 58 := by omega
    rcases hsw2 with hv | hv | hv | hv | hv | hv | hv | hv | hv | hv | hv | hv | hv | hv | hv | hv | hv | hv | hv | hv | hv | hv | hv | hv | hv | hv | hv | hv | hv | hv | hv | hv | hv | hv | hv | hv | hv | hv | hv | hv | hv | hv
    · have hx : x1 = 17 := i32_ofInt hv
      have H := H.1 hx
      refine xt_tableIn (tgt := 299) dX4_readBody_1 (by omega) (by omega) (by rw [hv]; rfl) (by decide) ?_
      refine xt_aload_n (j := 0) dX4_readBody_299 rfl rfl ?_
      refine xt_aload_n (j := 2) dX4_readBody_300 rfl rfl ?_
      refine xt_iload_n (j := 3) dX4_readBody_301 rfl rfl ?_
      obtain ⟨ho1, H⟩ := H
      refine xt_callV (h2 := h) (as := [.ref x2, .int x3]) (st := []) dX4_readBody_302 (mlX4_265 rfl) rfl ho1.1 ⟨by rw [ho1.2]; rfl, by rw [ho1.2]; decide⟩ (by first | decide | (simp [Value.category]; done)) (Nat.le_refl _) H (fun r M2 HH hE => ?_)
      obtain ⟨r3, hr, H⟩ := HH hE
      subst hr
      have ho1 := ok_E ho1 hE
      show T _ _ _ _ [.int r3] _ _
      exact xt_ireturn dX4_readBody_305 rfl H
    · have hx : x1 = 18 := i32_ofInt hv
      have H := H.2.1 hx
      refine xt_tableIn (tgt := 306) dX4_readBody_1 (by omega) (by omega) (by rw [hv]; rfl) (by decide) ?_
      refine xt_aload_n (j := 0) dX4_readBody_306 rfl rfl ?_
      obtain ⟨ho4, H⟩ := H
      obtain ⟨b5, hb, H⟩ := H
      refine xt_getR dX4_readBody_307 (flX4_20 rfl) ft_6_1 ho4.1 ho4.2 hb ?_
      refine xt_iconst (v := 0) dX4_readBody_310 (by decide) ?_
      obtain ⟨ho6, H⟩ := H
      refine xt_callV (h2 := h) (as := [.int 0]) (st := []) dX4_readBody_311 (mlX4_159 rfl) rfl ho6.1 ⟨by rw [ho6.2]; rfl, by rw [ho6.2]; decide⟩ (by first | decide | (simp [Value.category]; done)) (Nat.le_refl _) H (fun r M7 HH hE => ?_)
      obtain ⟨r8, hr, H⟩ := HH hE
      subst hr
      have ho4 := ok_E ho4 hE
      show T _ _ _ _ [.int r8] _ _
      exact xt_ireturn dX4_readBody_314 rfl H
    · have hx : x1 = 19 := i32_ofInt hv
      have H := H.2.2.1 hx
      refine xt_tableIn (tgt := 306) dX4_readBody_1 (by omega) (by omega) (by rw [hv]; rfl) (by decide) ?_
      refine xt_aload_n (j := 0) dX4_readBody_306 rfl rfl ?_
      obtain ⟨ho9, H⟩ := H
      obtain ⟨b10, hb, H⟩ := H
      refine xt_getR dX4_readBody_307 (flX4_20 rfl) ft_6_1 ho9.1 ho9.2 hb ?_
      refine xt_iconst (v := 0) dX4_readBody_310 (by decide) ?_
      obtain ⟨ho11, H⟩ := H
      refine xt_callV (h2 := h) (as := [.int 0]) (st := []) dX4_readBody_311 (mlX4_159 rfl) rfl ho11.1 ⟨by rw [ho11.2]; rfl, by rw [ho11.2]; decide⟩ (by first | decide | (simp [Value.category]; done)) (Nat.le_refl _) H (fun r M12 HH hE => ?_)
      obtain ⟨r13, hr, H⟩ := HH hE
      subst hr
      have ho9 := ok_E ho9 hE
      show T _ _ _ _ [.int r13] _ _
      exact xt_ireturn dX4_readBody_314 rfl H
    · have hx : x1 = 20 := i32_ofInt hv
      have H := H.2.2.2.1 hx
      refine xt_tableIn (tgt := 306) dX4_readBody_1 (by omega) (by omega) (by rw [hv]; rfl) (by decide) ?_
      refine xt_aload_n (j := 0) dX4_readBody_306 rfl rfl ?_
      obtain ⟨ho14, H⟩ := H
      obtain ⟨b15, hb, H⟩ := H
      refine xt_getR dX4_readBody_307 (flX4_20 rfl) ft_6_1 ho14.1 ho14.2 hb ?_
      refine xt_iconst (v := 0) dX4_readBody_310 (by decide) ?_
      obtain ⟨ho16, H⟩ := H
      refine xt_callV (h2 := h) (as := [.int 0]) (st := []) dX4_readBody_311 (mlX4_159 rfl) rfl ho16.1 ⟨by rw [ho16.2]; rfl, by rw [ho16.2]; decide⟩ (by first | decide | (simp [Value.category]; done)) (Nat.le_refl _) H (fun r M17 HH hE => ?_)
      obtain ⟨r18, hr, H⟩ := HH hE
      subst hr
      have ho14 := ok_E ho14 hE
      show T _ _ _ _ [.int r18] _ _
      exact xt_ireturn dX4_readBody_314 rfl H
    · have hx : x1 = 21 := i32_ofInt hv
      have H := H.2.2.2.2.1 hx
      refine xt_tableIn (tgt := 306) dX4_readBody_1 (by omega) (by omega) (by rw [hv]; rfl) (by decide) ?_
      refine xt_aload_n (j := 0) dX4_readBody_306 rfl rfl ?_
      obtain ⟨ho19, H⟩ := H
      obtain ⟨b20, hb, H⟩ := H
      refine xt_getR dX4_readBody_307 (flX4_20 rfl) ft_6_1 ho19.1 ho19.2 hb ?_
      refine xt_iconst (v := 0) dX4_readBody_310 (by decide) ?_
      obtain ⟨ho21, H⟩ := H
      refine xt_callV (h2 := h) (as := [.int 0]) (st := []) dX4_readBody_311 (mlX4_159 rfl) rfl ho21.1 ⟨by rw [ho21.2]; rfl, by rw [ho21.2]; decide⟩ (by first | decide | (simp [Value.category]; done)) (Nat.le_refl _) H (fun r M22 HH hE => ?_)
      obtain ⟨r23, hr, H⟩ := HH hE
      subst hr
      have ho19 := ok_E ho19 hE
      show T _ _ _ _ [.int r23] _ _
      exact xt_ireturn dX4_readBody_314 rfl H
    · have hx : x1 = 22 := i32_ofInt hv
      have H := H.2.2.2.2.2.1 hx
      refine xt_tableIn (tgt := 306) dX4_readBody_1 (by omega) (by omega) (by rw [hv]; rfl) (by decide) ?_
      refine xt_aload_n (j := 0) dX4_readBody_306 rfl rfl ?_
      obtain ⟨ho24, H⟩ := H
      obtain ⟨b25, hb, H⟩ := H
      refine xt_getR dX4_readBody_307 (flX4_20 rfl) ft_6_1 ho24.1 ho24.2 hb ?_
      refine xt_iconst (v := 0) dX4_readBody_310 (by decide) ?_
      obtain ⟨ho26, H⟩ := H
      refine xt_callV (h2 := h) (as := [.int 0]) (st := []) dX4_readBody_311 (mlX4_159 rfl) rfl ho26.1 ⟨by rw [ho26.2]; rfl, by rw [ho26.2]; decide⟩ (by first | decide | (simp [Value.category]; done)) (Nat.le_refl _) H (fun r M27 HH hE => ?_)
      obtain ⟨r28, hr, H⟩ := HH hE
      subst hr
      have ho24 := ok_E ho24 hE
      show T _ _ _ _ [.int r28] _ _
      exact xt_ireturn dX4_readBody_314 rfl H
    · have hx : x1 = 23 := i32_ofInt hv
      have H := H.2.2.2.2.2.2.1 hx
      refine xt_tableIn (tgt := 306) dX4_readBody_1 (by omega) (by omega) (by rw [hv]; rfl) (by decide) ?_
      refine xt_aload_n (j := 0) dX4_readBody_306 rfl rfl ?_
      obtain ⟨ho29, H⟩ := H
      obtain ⟨b30, hb, H⟩ := H
      refine xt_getR dX4_readBody_307 (flX4_20 rfl) ft_6_1 ho29.1 ho29.2 hb ?_
      refine xt_iconst (v := 0) dX4_readBody_310 (by decide) ?_
      obtain ⟨ho31, H⟩ := H
      refine xt_callV (h2 := h) (as := [.int 0]) (st := []) dX4_readBody_311 (mlX4_159 rfl) rfl ho31.1 ⟨by rw [ho31.2]; rfl, by rw [ho31.2]; decide⟩ (by first | decide | (simp [Value.category]; done)) (Nat.le_refl _) H (fun r M32 HH hE => ?_)
      obtain ⟨r33, hr, H⟩ := HH hE
      subst hr
      have ho29 := ok_E ho29 hE
      show T _ _ _ _ [.int r33] _ _
      exact xt_ireturn dX4_readBody_314 rfl H
    · have hx : x1 = 24 := i32_ofInt hv
      have H := H.2.2.2.2.2.2.2.1 hx
      refine xt_tableIn (tgt := 306) dX4_readBody_1 (by omega) (by omega) (by rw [hv]; rfl) (by decide) ?_
      refine xt_aload_n (j := 0) dX4_readBody_306 rfl rfl ?_
      obtain ⟨ho34, H⟩ := H
      obtain ⟨b35, hb, H⟩ := H
      refine xt_getR dX4_readBody_307 (flX4_20 rfl) ft_6_1 ho34.1 ho34.2 hb ?_
      refine xt_iconst (v := 0) dX4_readBody_310 (by decide) ?_
      obtain ⟨ho36, H⟩ := H
      refine xt_callV (h2 := h) (as := [.int 0]) (st := []) dX4_readBody_311 (mlX4_159 rfl) rfl ho36.1 ⟨by rw [ho36.2]; rfl, by rw [ho36.2]; decide⟩ (by first | decide | (simp [Value.category]; done)) (Nat.le_refl _) H (fun r M37 HH hE => ?_)
      obtain ⟨r38, hr, H⟩ := HH hE
      subst hr
      have ho34 := ok_E ho34 hE
      show T _ _ _ _ [.int r38] _ _
      exact xt_ireturn dX4_readBody_314 rfl H
    · have hx : x1 = 25 := i32_ofInt hv
      have H := H.2.2.2.2.2.2.2.2.1 hx
      refine xt_tableIn (tgt := 306) dX4_readBody_1 (by omega) (by omega) (by rw [hv]; rfl) (by decide) ?_
      refine xt_aload_n (j := 0) dX4_readBody_306 rfl rfl ?_
      obtain ⟨ho39, H⟩ := H
      obtain ⟨b40, hb, H⟩ := H
      refine xt_getR dX4_readBody_307 (flX4_20 rfl) ft_6_1 ho39.1 ho39.2 hb ?_
      refine xt_iconst (v := 0) dX4_readBody_310 (by decide) ?_
      obtain ⟨ho41, H⟩ := H
      refine xt_callV (h2 := h) (as := [.int 0]) (st := []) dX4_readBody_311 (mlX4_159 rfl) rfl ho41.1 ⟨by rw [ho41.2]; rfl, by rw [ho41.2]; decide⟩ (by first | decide | (simp [Value.category]; done)) (Nat.le_refl _) H (fun r M42 HH hE => ?_)
      obtain ⟨r43, hr, H⟩ := HH hE
      subst hr
      have ho39 := ok_E ho39 hE
      show T _ _ _ _ [.int r43] _ _
      exact xt_ireturn dX4_readBody_314 rfl H
    · have hx : x1 = 26 := i32_ofInt hv
      have H := H.2.2.2.2.2.2.2.2.2.1 hx
      refine xt_tableIn (tgt := 306) dX4_readBody_1 (by omega) (by omega) (by rw [hv]; rfl) (by decide) ?_
      refine xt_aload_n (j := 0) dX4_readBody_306 rfl rfl ?_
      obtain ⟨ho44, H⟩ := H
      obtain ⟨b45, hb, H⟩ := H
      refine xt_getR dX4_readBody_307 (flX4_20 rfl) ft_6_1 ho44.1 ho44.2 hb ?_
      refine xt_iconst (v := 0) dX4_readBody_310 (by decide) ?_
      obtain ⟨ho46, H⟩ := H
      refine xt_callV (h2 := h) (as := [.int 0]) (st := []) dX4_readBody_311 (mlX4_159 rfl) rfl ho46.1 ⟨by rw [ho46.2]; rfl, by rw [ho46.2]; decide⟩ (by first | decide | (simp [Value.category]; done)) (Nat.le_refl _) H (fun r M47 HH hE => ?_)
      obtain ⟨r48, hr, H⟩ := HH hE
      subst hr
      have ho44 := ok_E ho44 hE
      show T _ _ _ _ [.int r48] _ _
      exact xt_ireturn dX4_readBody_314 rfl H
    · have hx : x1 = 27 := i32_ofInt hv
      have H := H.2.2.2.2.2.2.2.2.2.2.1 hx
      refine xt_tableIn (tgt := 306) dX4_readBody_1 (by omega) (by omega) (by rw [hv]; rfl) (by decide) ?_
      refine xt_aload_n (j := 0) dX4_readBody_306 rfl rfl ?_
      obtain ⟨ho49, H⟩ := H
      obtain ⟨b50, hb, H⟩ := H
      refine xt_getR dX4_readBody_307 (flX4_20 rfl) ft_6_1 ho49.1 ho49.2 hb ?_
      refine xt_iconst (v := 0) dX4_readBody_310 (by decide) ?_
      obtain ⟨ho51, H⟩ := H
      refine xt_callV (h2 := h) (as := [.int 0]) (st := []) dX4_readBody_311 (mlX4_159 rfl) rfl ho51.1 ⟨by rw [ho51.2]; rfl, by rw [ho51.2]; decide⟩ (by first | decide | (simp [Value.category]; done)) (Nat.le_refl _) H (fun r M52 HH hE => ?_)
      obtain ⟨r53, hr, H⟩ := HH hE
      subst hr
      have ho49 := ok_E ho49 hE
      show T _ _ _ _ [.int r53] _ _
      exact xt_ireturn dX4_readBody_314 rfl H
    · have hx : x1 = 28 := i32_ofInt hv
      have H := H.2.2.2.2.2.2.2.2.2.2.2.1 hx
      refine xt_tableIn (tgt := 306) dX4_readBody_1 (by omega) (by omega) (by rw [hv]; rfl) (by decide) ?_
      refine xt_aload_n (j := 0) dX4_readBody_306 rfl rfl ?_
      obtain ⟨ho54, H⟩ := H
      obtain ⟨b55, hb, H⟩ := H
      refine xt_getR dX4_readBody_307 (flX4_20 rfl) ft_6_1 ho54.1 ho54.2 hb ?_
      refine xt_iconst (v := 0) dX4_readBody_310 (by decide) ?_
      obtain ⟨ho56, H⟩ := H
      refine xt_callV (h2 := h) (as := [.int 0]) (st := []) dX4_readBody_311 (mlX4_159 rfl) rfl ho56.1 ⟨by rw [ho56.2]; rfl, by rw [ho56.2]; decide⟩ (by first | decide | (simp [Value.category]; done)) (Nat.le_refl _) H (fun r M57 HH hE => ?_)
      obtain ⟨r58, hr, H⟩ := HH hE
      subst hr
      have ho54 := ok_E ho54 hE
      show T _ _ _ _ [.int r58] _ _
      exact xt_ireturn dX4_readBody_314 rfl H
    · have hx : x1 = 29 := i32_ofInt hv
      have H := H.2.2.2.2.2.2.2.2.2.2.2.2.1 hx
      refine xt_tableIn (tgt := 306) dX4_readBody_1 (by omega) (by omega) (by rw [hv]; rfl) (by decide) ?_
      refine xt_aload_n (j := 0) dX4_readBody_306 rfl rfl ?_
      obtain ⟨ho59, H⟩ := H
      obtain ⟨b60, hb, H⟩ := H
      refine xt_getR dX4_readBody_307 (flX4_20 rfl) ft_6_1 ho59.1 ho59.2 hb ?_
      refine xt_iconst (v := 0) dX4_readBody_310 (by decide) ?_
      obtain ⟨ho61, H⟩ := H
      refine xt_callV (h2 := h) (as := [.int 0]) (st := []) dX4_readBody_311 (mlX4_159 rfl) rfl ho61.1 ⟨by rw [ho61.2]; rfl, by rw [ho61.2]; decide⟩ (by first | decide | (simp [Value.category]; done)) (Nat.le_refl _) H (fun r M62 HH hE => ?_)
      obtain ⟨r63, hr, H⟩ := HH hE
      subst hr
      have ho59 := ok_E ho59 hE
      show T _ _ _ _ [.int r63] _ _
      exact xt_ireturn dX4_readBody_314 rfl H
    · have hx : x1 = 30 := i32_ofInt hv
      have H := H.2.2.2.2.2.2.2.2.2.2.2.2.2.1 hx
      refine xt_tableIn (tgt := 306) dX4_readBody_1 (by omega) (by omega) (by rw [hv]; rfl) (by decide) ?_
      refine xt_aload_n (j := 0) dX4_readBody_306 rfl rfl ?_
      obtain ⟨ho64, H⟩ := H
      obtain ⟨b65, hb, H⟩ := H
      refine xt_getR dX4_readBody_307 (flX4_20 rfl) ft_6_1 ho64.1 ho64.2 hb ?_
      refine xt_iconst (v := 0) dX4_readBody_310 (by decide) ?_
      obtain ⟨ho66, H⟩ := H
      refine xt_callV (h2 := h) (as := [.int 0]) (st := []) dX4_readBody_311 (mlX4_159 rfl) rfl ho66.1 ⟨by rw [ho66.2]; rfl, by rw [ho66.2]; decide⟩ (by first | decide | (simp [Value.category]; done)) (Nat.le_refl _) H (fun r M67 HH hE => ?_)
      obtain ⟨r68, hr, H⟩ := HH hE
      subst hr
      have ho64 := ok_E ho64 hE
      show T _ _ _ _ [.int r68] _ _
      exact xt_ireturn dX4_readBody_314 rfl H
    · have hx : x1 = 31 := i32_ofInt hv
      have H := H.2.2.2.2.2.2.2.2.2.2.2.2.2.2.1 hx
      refine xt_tableIn (tgt := 306) dX4_readBody_1 (by omega) (by omega) (by rw [hv]; rfl) (by decide) ?_
      refine xt_aload_n (j := 0) dX4_readBody_306 rfl rfl ?_
      obtain ⟨ho69, H⟩ := H
      obtain ⟨b70, hb, H⟩ := H
      refine xt_getR dX4_readBody_307 (flX4_20 rfl) ft_6_1 ho69.1 ho69.2 hb ?_
      refine xt_iconst (v := 0) dX4_readBody_310 (by decide) ?_
      obtain ⟨ho71, H⟩ := H
      refine xt_callV (h2 := h) (as := [.int 0]) (st := []) dX4_readBody_311 (mlX4_159 rfl) rfl ho71.1 ⟨by rw [ho71.2]; rfl, by rw [ho71.2]; decide⟩ (by first | decide | (simp [Value.category]; done)) (Nat.le_refl _) H (fun r M72 HH hE => ?_)
      obtain ⟨r73, hr, H⟩ := HH hE
      subst hr
      have ho69 := ok_E ho69 hE
      show T _ _ _ _ [.int r73] _ _
      exact xt_ireturn dX4_readBody_314 rfl H
    · have hx : x1 = 32 := i32_ofInt hv
      have H := H.2.2.2.2.2.2.2.2.2.2.2.2.2.2.2.1 hx
      refine xt_tableIn (tgt := 306) dX4_readBody_1 (by omega) (by omega) (by rw [hv]; rfl) (by decide) ?_
      refine xt_aload_n (j := 0) dX4_readBody_306 rfl rfl ?_
      obtain ⟨ho74, H⟩ := H
      obtain ⟨b75, hb, H⟩ := H
      refine xt_getR dX4_readBody_307 (flX4_20 rfl) ft_6_1 ho74.1 ho74.2 hb ?_
      refine xt_iconst (v := 0) dX4_readBody_310 (by decide) ?_
      obtain ⟨ho76, H⟩ := H
      refine xt_callV (h2 := h) (as := [.int 0]) (st := []) dX4_readBody_311 (mlX4_159 rfl) rfl ho76.1 ⟨by rw [ho76.2]; rfl, by rw [ho76.2]; decide⟩ (by first | decide | (simp [Value.category]; done)) (Nat.le_refl _) H (fun r M77 HH hE => ?_)
      obtain ⟨r78, hr, H⟩ := HH hE
      subst hr
      have ho74 := ok_E ho74 hE
      show T _ _ _ _ [.int r78] _ _
      exact xt_ireturn dX4_readBody_314 rfl H
    · have hx : x1 = 33 := i32_ofInt hv
      have H := H.2.2.2.2.2.2.2.2.2.2.2.2.2.2.2.2.1 hx
      refine xt_tableIn (tgt := 306) dX4_readBody_1 (by omega) (by omega) (by rw [hv]; rfl) (by decide) ?_
      refine xt_aload_n (j := 0) dX4_readBody_306 rfl rfl ?_
      obtain ⟨ho79, H⟩ := H
      obtain ⟨b80, hb, H⟩ := H
      refine xt_getR dX4_readBody_307 (flX4_20 rfl) ft_6_1 ho79.1 ho79.2 hb ?_
      refine xt_iconst (v := 0) dX4_readBody_310 (by decide) ?_
      obtain ⟨ho81, H⟩ := H
      refine xt_callV (h2 := h) (as := [.int 0]) (st := []) dX4_readBody_311 (mlX4_159 rfl) rfl ho81.1 ⟨by rw [ho81.2]; rfl, by rw [ho81.2]; decide⟩ (by first | decide | (simp [Value.category]; done)) (Nat.le_refl _) H (fun r M82 HH hE => ?_)
      obtain ⟨r83, hr, H⟩ := HH hE
      subst hr
      have ho79 := ok_E ho79 hE
      show T _ _ _ _ [.int r83] _ _
      exact xt_ireturn dX4_readBody_314 rfl H
    · have hx : x1 = 34 := i32_ofInt hv
      have H := H.2.2.2.2.2.2.2.2.2.2.2.2.2.2.2.2.2.1 hx
      refine xt_tableIn (tgt := 306) dX4_readBody_1 (by omega) (by omega) (by rw [hv]; rfl) (by decide) ?_
      refine xt_aload_n (j := 0) dX4_readBody_306 rfl rfl ?_
      obtain ⟨ho84, H⟩ := H
      obtain ⟨b85, hb, H⟩ := H
      refine xt_getR dX4_readBody_307 (flX4_20 rfl) ft_6_1 ho84.1 ho84.2 hb ?_
      refine xt_iconst (v := 0) dX4_readBody_310 (by decide) ?_
      obtain ⟨ho86, H⟩ := H
      refine xt_callV (h2 := h) (as := [.int 0]) (st := []) dX4_readBody_311 (mlX4_159 rfl) rfl ho86.1 ⟨by rw [ho86.2]; rfl, by rw [ho86.2]; decide⟩ (by first | decide | (simp [Value.category]; done)) (Nat.le_refl _) H (fun r M87 HH hE => ?_)
      obtain ⟨r88, hr, H⟩ := HH hE
      subst hr
      have ho84 := ok_E ho84 hE
      show T _ _ _ _ [.int r88] _ _
      exact xt_ireturn dX4_readBody_314 rfl H
    · have hx : x1 = 35 := i32_ofInt hv
      have H := H.2.2.2.2.2.2.2.2.2.2.2.2.2.2.2.2.2.2.1 hx
      refine xt_tableIn (tgt := 306) dX4_readBody_1 (by omega) (by omega) (by rw [hv]; rfl) (by decide) ?_
      refine xt_aload_n (j := 0) dX4_readBody_306 rfl rfl ?_
      obtain ⟨ho89, H⟩ := H
      obtain ⟨b90, hb, H⟩ := H
      refine xt_getR dX4_readBody_307 (flX4_20 rfl) ft_6_1 ho89.1 ho89.2 hb ?_
      refine xt_iconst (v := 0) dX4_readBody_310 (by decide) ?_
      obtain ⟨ho91, H⟩ := H
      refine xt_callV (h2 := h) (as := [.int 0]) (st := []) dX4_readBody_311 (mlX4_159 rfl) rfl ho91.1 ⟨by rw [ho91.2]; rfl, by rw [ho91.2]; decide⟩ (by first | decide | (simp [Value.category]; done)) (Nat.le_refl _) H (fun r M92 HH hE => ?_)
      obtain ⟨r93, hr, H⟩ := HH hE
      subst hr
      have ho89 := ok_E ho89 hE
      show T _ _ _ _ [.int r93] _ _
      exact xt_ireturn dX4_readBody_314 rfl H
    · have hx : x1 = 36 := i32_ofInt hv
      have H := H.2.2.2.2.2.2.2.2.2.2.2.2.2.2.2.2.2.2.2.1 hx
      refine xt_tableIn (tgt := 306) dX4_readBody_1 (by omega) (by omega) (by rw [hv]; rfl) (by decide) ?_
      refine xt_aload_n (j := 0) dX4_readBody_306 rfl rfl ?_
      obtain ⟨ho94, H⟩ := H
      obtain ⟨b95, hb, H⟩ := H
      refine xt_getR dX4_readBody_307 (flX4_20 rfl) ft_6_1 ho94.1 ho94.2 hb ?_
      refine xt_iconst (v := 0) dX4_readBody_310 (by decide) ?_
      obtain ⟨ho96, H⟩ := H
      refine xt_callV (h2 := h) (as := [.int 0]) (st := []) dX4_readBody_311 (mlX4_159 rfl) rfl ho96.1 ⟨by rw [ho96.2]; rfl, by rw [ho96.2]; decide⟩ (by first | decide | (simp [Value.category]; done)) (Nat.le_refl _) H (fun r M97 HH hE => ?_)
      obtain ⟨r98, hr, H⟩ := HH hE
      subst hr
      have ho94 := ok_E ho94 hE
      show T _ _ _ _ [.int r98] _ _
      exact xt_ireturn dX4_readBody_314 rfl H
    · have hx : x1 = 37 := i32_ofInt hv
      have H := H.2.2.2.2.2.2.2.2.2.2.2.2.2.2.2.2.2.2.2.2.1 hx
      refine xt_tableIn (tgt := 306) dX4_readBody_1 (by omega) (by omega) (by rw [hv]; rfl) (by decide) ?_
      refine xt_aload_n (j := 0) dX4_readBody_306 rfl rfl ?_
      obtain ⟨ho99, H⟩ := H
      obtain ⟨b100, hb, H⟩ := H
      refine xt_getR dX4_readBody_307 (flX4_20 rfl) ft_6_1 ho99.1 ho99.2 hb ?_
      refine xt_iconst (v := 0) dX4_readBody_310 (by decide) ?_
      obtain ⟨ho101, H⟩ := H
      refine xt_callV (h2 := h) (as := [.int 0]) (st := []) dX4_readBody_311 (mlX4_159 rfl) rfl ho101.1 ⟨by rw [ho101.2]; rfl, by rw [ho101.2]; decide⟩ (by first | decide | (simp [Value.category]; done)) (Nat.le_refl _) H (fun r M102 HH hE => ?_)
      obtain ⟨r103, hr, H⟩ := HH hE
      subst hr
      have ho99 := ok_E ho99 hE
      show T _ _ _ _ [.int r103] _ _
      exact xt_ireturn dX4_readBody_314 rfl H
    · have hx : x1 = 38 := i32_ofInt hv
      have H := H.2.2.2.2.2.2.2.2.2.2.2.2.2.2.2.2.2.2.2.2.2.1 hx
      refine xt_tableIn (tgt := 184) dX4_readBody_1 (by omega) (by omega) (by rw [hv]; rfl) (by decide) ?_
      refine xt_aload_n (j := 0) dX4_readBody_184 rfl rfl ?_
      obtain ⟨ho104, H⟩ := H
      obtain ⟨b105, hb, H⟩ := H
      refine xt_getR dX4_readBody_185 (flX4_20 rfl) ft_6_1 ho104.1 ho104.2 hb ?_
      obtain ⟨ho106, H⟩ := H
      refine xt_callV (h2 := h) (as := []) (st := []) dX4_readBody_188 (mlX4_217 rfl) rfl ho106.1 ⟨by rw [ho106.2]; rfl, by rw [ho106.2]; decide⟩ (by first | decide | (simp [Value.category]; done)) (Nat.le_refl _) H (fun r M107 HH hE => ?_)
      obtain ⟨r108, hr, H⟩ := HH hE
      subst hr
      have ho104 := ok_E ho104 hE
      show T _ _ _ _ [.int r108] _ _
      exact xt_ireturn dX4_readBody_191 rfl H
    · have hx : x1 = 39 := i32_ofInt hv
      have H := H.2.2.2.2.2.2.2.2.2.2.2.2.2.2.2.2.2.2.2.2.2.2.1 hx
      refine xt_tableIn (tgt := 192) dX4_readBody_1 (by omega) (by omega) (by rw [hv]; rfl) (by decide) ?_
      refine xt_aload_n (j := 0) dX4_readBody_192 rfl rfl ?_
      obtain ⟨ho109, H⟩ := H
      obtain ⟨b110, hb, H⟩ := H
      refine xt_getR dX4_readBody_193 (flX4_20 rfl) ft_6_1 ho109.1 ho109.2 hb ?_
      obtain ⟨ho111, H⟩ := H
      refine xt_callV (h2 := h) (as := []) (st := []) dX4_readBody_196 (mlX4_220 rfl) rfl ho111.1 ⟨by rw [ho111.2]; rfl, by rw [ho111.2]; decide⟩ (by first | decide | (simp [Value.category]; done)) (Nat.le_refl _) H (fun r M112 HH hE => ?_)
      obtain ⟨r113, hr, H⟩ := HH hE
      subst hr
      have ho109 := ok_E ho109 hE
      show T _ _ _ _ [.int r113] _ _
      exact xt_ireturn dX4_readBody_199 rfl H
    · have hx : x1 = 40 := i32_ofInt hv
      have H := H.2.2.2.2.2.2.2.2.2.2.2.2.2.2.2.2.2.2.2.2.2.2.2.1 hx
      refine xt_tableIn (tgt := 200) dX4_readBody_1 (by omega) (by omega) (by rw [hv]; rfl) (by decide) ?_
      refine xt_aload_n (j := 0) dX4_readBody_200 rfl rfl ?_
      refine xt_aload_n (j := 2) dX4_readBody_201 rfl rfl ?_
      obtain ⟨ho114, H⟩ := H
      refine xt_callV (h2 := h) (as := [.ref x2]) (st := []) dX4_readBody_202 (mlX4_223 rfl) rfl ho114.1 ⟨by rw [ho114.2]; rfl, by rw [ho114.2]; decide⟩ (by first | decide | (simp [Value.category]; done)) (Nat.le_refl _) H (fun r M115 HH hE => ?_)
      obtain ⟨r116, hr, H⟩ := HH hE
      subst hr
      have ho114 := ok_E ho114 hE
      show T _ _ _ _ [.int r116] _ _
      exact xt_ireturn dX4_readBody_205 rfl H
    · have hx : x1 = 41 := i32_ofInt hv
      have H := H.2.2.2.2.2.2.2.2.2.2.2.2.2.2.2.2.2.2.2.2.2.2.2.2.1 hx
      refine xt_tableIn (tgt := 206) dX4_readBody_1 (by omega) (by omega) (by rw [hv]; rfl) (by decide) ?_
      refine xt_aload_n (j := 0) dX4_readBody_206 rfl rfl ?_
      obtain ⟨ho117, H⟩ := H
      refine xt_callV (h2 := h) (as := []) (st := []) dX4_readBody_207 (mlX4_227 rfl) rfl ho117.1 ⟨by rw [ho117.2]; rfl, by rw [ho117.2]; decide⟩ (by first | decide | (simp [Value.category]; done)) (Nat.le_refl _) H (fun r M118 HH hE => ?_)
      obtain ⟨r119, hr, H⟩ := HH hE
      subst hr
      have ho117 := ok_E ho117 hE
      show T _ _ _ _ [.int r119] _ _
      exact xt_ireturn dX4_readBody_210 rfl H
    · have hx : x1 = 42 := i32_ofInt hv
      have H := H.2.2.2.2.2.2.2.2.2.2.2.2.2.2.2.2.2.2.2.2.2.2.2.2.2.1 hx
      refine xt_tableIn (tgt := 211) dX4_readBody_1 (by omega) (by omega) (by rw [hv]; rfl) (by decide) ?_
      refine xt_aload_n (j := 0) dX4_readBody_211 rfl rfl ?_
      refine xt_aload_n (j := 2) dX4_readBody_212 rfl rfl ?_
      refine xt_iload_n (j := 3) dX4_readBody_213 rfl rfl ?_
      obtain ⟨ho120, H⟩ := H
      refine xt_callV (h2 := h) (as := [.ref x2, .int x3]) (st := []) dX4_readBody_214 (mlX4_230 rfl) rfl ho120.1 ⟨by rw [ho120.2]; rfl, by rw [ho120.2]; decide⟩ (by first | decide | (simp [Value.category]; done)) (Nat.le_refl _) H (fun r M121 HH hE => ?_)
      obtain ⟨r122, hr, H⟩ := HH hE
      subst hr
      have ho120 := ok_E ho120 hE
      show T _ _ _ _ [.int r122] _ _
      exact xt_ireturn dX4_readBody_217 rfl H
    · have hx : x1 = 43 := i32_ofInt hv
      have H := H.2.2.2.2.2.2.2.2.2.2.2.2.2.2.2.2.2.2.2.2.2.2.2.2.2.2.1 hx
      refine xt_tableIn (tgt := 306) dX4_readBody_1 (by omega) (by omega) (by rw [hv]; rfl) (by decide) ?_
      refine xt_aload_n (j := 0) dX4_readBody_306 rfl rfl ?_
      obtain ⟨ho123, H⟩ := H
      obtain ⟨b124, hb, H⟩ := H
      refine xt_getR dX4_readBody_307 (flX4_20 rfl) ft_6_1 ho123.1 ho123.2 hb ?_
      refine xt_iconst (v := 0) dX4_readBody_310 (by decide) ?_
      obtain ⟨ho125, H⟩ := H
      refine xt_callV (h2 := h) (as := [.int 0]) (st := []) dX4_readBody_311 (mlX4_159 rfl) rfl ho125.1 ⟨by rw [ho125.2]; rfl, by rw [ho125.2]; decide⟩ (by first | decide | (simp [Value.category]; done)) (Nat.le_refl _) H (fun r M126 HH hE => ?_)
      obtain ⟨r127, hr, H⟩ := HH hE
      subst hr
      have ho123 := ok_E ho123 hE
      show T _ _ _ _ [.int r127] _ _
      exact xt_ireturn dX4_readBody_314 rfl H
    · have hx : x1 = 44 := i32_ofInt hv
      have H := H.2.2.2.2.2.2.2.2.2.2.2.2.2.2.2.2.2.2.2.2.2.2.2.2.2.2.2.1 hx
      refine xt_tableIn (tgt := 218) dX4_readBody_1 (by omega) (by omega) (by rw [hv]; rfl) (by decide) ?_
      refine xt_aload_n (j := 0) dX4_readBody_218 rfl rfl ?_
      refine xt_aload_n (j := 0) dX4_readBody_219 rfl rfl ?_
      obtain ⟨ho128, H⟩ := H
      refine xt_callV (h2 := h) (as := []) (st := [.ref x0]) dX4_readBody_220 (mlX4_234 rfl) rfl ho128.1 ⟨by rw [ho128.2]; rfl, by rw [ho128.2]; decide⟩ (by first | decide | (simp [Value.category]; done)) (Nat.le_refl _) H (fun r M129 HH hE => ?_)
      obtain ⟨r130, hr, H⟩ := HH hE
      subst hr
      have ho128 := ok_E ho128 hE
      show T _ _ _ _ [.int r130, .ref x0] _ _
      refine xt_iload_n (j := 3) dX4_readBody_223 rfl rfl ?_
      refine xt_callV (h2 := h) (as := [.int r130, .int x3]) (st := []) dX4_readBody_224 (mlX4_237 rfl) rfl ho128.1 ⟨by rw [ho128.2]; rfl, by rw [ho128.2]; decide⟩ (by first | decide | (simp [Value.category]; done)) (Nat.le_refl _) H (fun r M131 HH hE => ?_)
      obtain ⟨r132, hr, H⟩ := HH hE
      subst hr
      have ho128 := ok_E ho128 hE
      show T _ _ _ _ [.int r132] _ _
      exact xt_ireturn dX4_readBody_227 rfl H
    · have hx : x1 = 45 := i32_ofInt hv
      have H := H.2.2.2.2.2.2.2.2.2.2.2.2.2.2.2.2.2.2.2.2.2.2.2.2.2.2.2.2.1 hx
      refine xt_tableIn (tgt := 306) dX4_readBody_1 (by omega) (by omega) (by rw [hv]; rfl) (by decide) ?_
      refine xt_aload_n (j := 0) dX4_readBody_306 rfl rfl ?_
      obtain ⟨ho133, H⟩ := H
      obtain ⟨b134, hb, H⟩ := H
      refine xt_getR dX4_readBody_307 (flX4_20 rfl) ft_6_1 ho133.1 ho133.2 hb ?_
      refine xt_iconst (v := 0) dX4_readBody_310 (by decide) ?_
      obtain ⟨ho135, H⟩ := H
      refine xt_callV (h2 := h) (as := [.int 0]) (st := []) dX4_readBody_311 (mlX4_159 rfl) rfl ho135.1 ⟨by rw [ho135.2]; rfl, by rw [ho135.2]; decide⟩ (by first | decide | (simp [Value.category]; done)) (Nat.le_refl _) H (fun r M136 HH hE => ?_)
      obtain ⟨r137, hr, H⟩ := HH hE
      subst hr
      have ho133 := ok_E ho133 hE
      show T _ _ _ _ [.int r137] _ _
      exact xt_ireturn dX4_readBody_314 rfl H
    · have hx : x1 = 46 := i32_ofInt hv
      have H := H.2.2.2.2.2.2.2.2.2.2.2.2.2.2.2.2.2.2.2.2.2.2.2.2.2.2.2.2.2.1 hx
      refine xt_tableIn (tgt := 306) dX4_readBody_1 (by omega) (by omega) (by rw [hv]; rfl) (by decide) ?_
      refine xt_aload_n (j := 0) dX4_readBody_306 rfl rfl ?_
      obtain ⟨ho138, H⟩ := H
      obtain ⟨b139, hb, H⟩ := H
      refine xt_getR dX4_readBody_307 (flX4_20 rfl) ft_6_1 ho138.1 ho138.2 hb ?_
      refine xt_iconst (v := 0) dX4_readBody_310 (by decide) ?_
      obtain ⟨ho140, H⟩ := H
      refine xt_callV (h2 := h) (as := [.int 0]) (st := []) dX4_readBody_311 (mlX4_159 rfl) rfl ho140.1 ⟨by rw [ho140.2]; rfl, by rw [ho140.2]; decide⟩ (by first | decide | (simp [Value.category]; done)) (Nat.le_refl _) H (fun r M141 HH hE => ?_)
      obtain ⟨r142, hr, H⟩ := HH hE
      subst hr
      have ho138 := ok_E ho138 hE
      show T _ _ _ _ [.int r142] _ _
      exact xt_ireturn dX4_readBody_314 rfl H
    · have hx : x1 = 47 := i32_ofInt hv
      have H := H.2.2.2.2.2.2.2.2.2.2.2.2.2.2.2.2.2.2.2.2.2.2.2.2.2.2.2.2.2.2.1 hx
      refine xt_tableIn (tgt := 228) dX4_readBody_1 (by omega) (by omega) (by rw [hv]; rfl) (by decide) ?_
      refine xt_aload_n (j := 0) dX4_readBody_228 rfl rfl ?_
      obtain ⟨ho143, H⟩ := H
      obtain ⟨b144, hb, H⟩ := H
      refine xt_getR dX4_readBody_229 (flX4_14 rfl) ft_6_0 ho143.1 ho143.2 hb ?_
      refine xt_bipush (v := 48) dX4_readBody_232 (by decide) ?_
      obtain ⟨ho145, H⟩ := H
      refine xt_callV (h2 := h) (as := [.int 48]) (st := []) dX4_readBody_234 (mlX4_134 rfl) rfl ho145.1 ⟨by rw [ho145.2]; rfl, by rw [ho145.2]; decide⟩ (by first | decide | (simp [Value.category]; done)) (Nat.le_refl _) H (fun r M146 HH hE => ?_)
      obtain ⟨r147, hr, H⟩ := HH hE
      subst hr
      have ho143 := ok_E ho143 hE
      show T _ _ _ _ [.int r147] _ _
      refine xt_istore (lv' := [(4, .int r147), (0, .ref x0), (1, .int x1), (2, .ref x2), (3, .int x3)]) dX4_readBody_237 (by decide) rfl ?_
      refine xt_aload_n (j := 1) dX4_readBody_239 rfl rfl ?_
      obtain ⟨b148, hb, H⟩ := H
      refine xt_getR dX4_readBody_240 (flX4_20 rfl) ft_6_1 ho143.1 ho143.2 hb ?_
      refine xt_aload_n (j := 1) dX4_readBody_243 rfl rfl ?_
      refine xt_callV (h2 := h) (as := []) (st := [.ref b148]) dX4_readBody_244 (mlX4_234 rfl) rfl ho143.1 ⟨by rw [ho143.2]; rfl, by rw [ho143.2]; decide⟩ (by first | decide | (simp [Value.category]; done)) (Nat.le_refl _) H (fun r M149 HH hE => ?_)
      obtain ⟨r150, hr, H⟩ := HH hE
      subst hr
      have ho143 := ok_E ho143 hE
      show T _ _ _ _ [.int r150, .ref b148] _ _
      refine xt_iload (j := 0) dX4_readBody_247 rfl ?_
      obtain ⟨ho151, H⟩ := H
      refine xt_callV (h2 := h) (as := [.int r150, .int r147]) (st := []) dX4_readBody_249 (mlX4_240 rfl) rfl ho151.1 ⟨by rw [ho151.2]; rfl, by rw [ho151.2]; decide⟩ (by first | decide | (simp [Value.category]; done)) (Nat.le_refl _) H (fun r M152 HH hE => ?_)
      obtain ⟨r153, hr, H⟩ := HH hE
      subst hr
      have ho143 := ok_E ho143 hE
      show T _ _ _ _ [.int r153] _ _
      exact xt_ireturn dX4_readBody_252 rfl H
    · have hx : x1 = 48 := i32_ofInt hv
      have H := H.2.2.2.2.2.2.2.2.2.2.2.2.2.2.2.2.2.2.2.2.2.2.2.2.2.2.2.2.2.2.2.1 hx
      refine xt_tableIn (tgt := 306) dX4_readBody_1 (by omega) (by omega) (by rw [hv]; rfl) (by decide) ?_
      refine xt_aload_n (j := 0) dX4_readBody_306 rfl rfl ?_
      obtain ⟨ho154, H⟩ := H
      obtain ⟨b155, hb, H⟩ := H
      refine xt_getR dX4_readBody_307 (flX4_20 rfl) ft_6_1 ho154.1 ho154.2 hb ?_
      refine xt_iconst (v := 0) dX4_readBody_310 (by decide) ?_
      obtain ⟨ho156, H⟩ := H
      refine xt_callV (h2 := h) (as := [.int 0]) (st := []) dX4_readBody_311 (mlX4_159 rfl) rfl ho156.1 ⟨by rw [ho156.2]; rfl, by rw [ho156.2]; decide⟩ (by first | decide | (simp [Value.category]; done)) (Nat.le_refl _) H (fun r M157 HH hE => ?_)
      obtain ⟨r158, hr, H⟩ := HH hE
      subst hr
      have ho154 := ok_E ho154 hE
      show T _ _ _ _ [.int r158] _ _
      exact xt_ireturn dX4_readBody_314 rfl H
    · have hx : x1 = 49 := i32_ofInt hv
      have H := H.2.2.2.2.2.2.2.2.2.2.2.2.2.2.2.2.2.2.2.2.2.2.2.2.2.2.2.2.2.2.2.2.1 hx
      refine xt_tableIn (tgt := 253) dX4_readBody_1 (by omega) (by omega) (by rw [hv]; rfl) (by decide) ?_
      refine xt_aload_n (j := 0) dX4_readBody_253 rfl rfl ?_
      refine xt_iload_n (j := 3) dX4_readBody_254 rfl rfl ?_
      obtain ⟨ho159, H⟩ := H
      refine xt_callV (h2 := h) (as := [.int x3]) (st := []) dX4_readBody_255 (mlX4_244 rfl) rfl ho159.1 ⟨by rw [ho159.2]; rfl, by rw [ho159.2]; decide⟩ (by first | decide | (simp [Value.category]; done)) (Nat.le_refl _) H (fun r M160 HH hE => ?_)
      obtain ⟨r161, hr, H⟩ := HH hE
      subst hr
      have ho159 := ok_E ho159 hE
      show T _ _ _ _ [.int r161] _ _
      exact xt_ireturn dX4_readBody_258 rfl H
    · have hx : x1 = 50 := i32_ofInt hv
      have H := H.2.2.2.2.2.2.2.2.2.2.2.2.2.2.2.2.2.2.2.2.2.2.2.2.2.2.2.2.2.2.2.2.2.1 hx
      refine xt_tableIn (tgt := 259) dX4_readBody_1 (by omega) (by omega) (by rw [hv]; rfl) (by decide) ?_
      refine xt_aload_n (j := 0) dX4_readBody_259 rfl rfl ?_
      refine xt_iload_n (j := 3) dX4_readBody_260 rfl rfl ?_
      obtain ⟨ho162, H⟩ := H
      refine xt_callV (h2 := h) (as := [.int x3]) (st := []) dX4_readBody_261 (mlX4_247 rfl) rfl ho162.1 ⟨by rw [ho162.2]; rfl, by rw [ho162.2]; decide⟩ (by first | decide | (simp [Value.category]; done)) (Nat.le_refl _) H (fun r M163 HH hE => ?_)
      obtain ⟨r164, hr, H⟩ := HH hE
      subst hr
      have ho162 := ok_E ho162 hE
      show T _ _ _ _ [.int r164] _ _
      exact xt_ireturn dX4_readBody_264 rfl H
    · have hx : x1 = 51 := i32_ofInt hv
      have H := H.2.2.2.2.2.2.2.2.2.2.2.2.2.2.2.2.2.2.2.2.2.2.2.2.2.2.2.2.2.2.2.2.2.2.1 hx
      refine xt_tableIn (tgt := 306) dX4_readBody_1 (by omega) (by omega) (by rw [hv]; rfl) (by decide) ?_
      refine xt_aload_n (j := 0) dX4_readBody_306 rfl rfl ?_
      obtain ⟨ho165, H⟩ := H
      obtain ⟨b166, hb, H⟩ := H
      refine xt_getR dX4_readBody_307 (flX4_20 rfl) ft_6_1 ho165.1 ho165.2 hb ?_
      refine xt_iconst (v := 0) dX4_readBody_310 (by decide) ?_
      obtain ⟨ho167, H⟩ := H
      refine xt_callV (h2 := h) (as := [.int 0]) (st := []) dX4_readBody_311 (mlX4_159 rfl) rfl ho167.1 ⟨by rw [ho167.2]; rfl, by rw [ho167.2]; decide⟩ (by first | decide | (simp [Value.category]; done)) (Nat.le_refl _) H (fun r M168 HH hE => ?_)
      obtain ⟨r169, hr, H⟩ := HH hE
      subst hr
      have ho165 := ok_E ho165 hE
      show T _ _ _ _ [.int r169] _ _
      exact xt_ireturn dX4_readBody_314 rfl H
    · have hx : x1 = 52 := i32_ofInt hv
      have H := H.2.2.2.2.2.2.2.2.2.2.2.2.2.2.2.2.2.2.2.2.2.2.2.2.2.2.2.2.2.2.2.2.2.2.2.1 hx
      refine xt_tableIn (tgt := 265) dX4_readBody_1 (by omega) (by omega) (by rw [hv]; rfl) (by decide) ?_
      refine xt_aload_n (j := 0) dX4_readBody_265 rfl rfl ?_
      refine xt_iload_n (j := 3) dX4_readBody_266 rfl rfl ?_
      obtain ⟨ho170, H⟩ := H
      refine xt_callV (h2 := h) (as := [.int x3]) (st := []) dX4_readBody_267 (mlX4_250 rfl) rfl ho170.1 ⟨by rw [ho170.2]; rfl, by rw [ho170.2]; decide⟩ (by first | decide | (simp [Value.category]; done)) (Nat.le_refl _) H (fun r M171 HH hE => ?_)
      obtain ⟨r172, hr, H⟩ := HH hE
      subst hr
      have ho170 := ok_E ho170 hE
      show T _ _ _ _ [.int r172] _ _
      exact xt_ireturn dX4_readBody_270 rfl H
    · have hx : x1 = 53 := i32_ofInt hv
      have H := H.2.2.2.2.2.2.2.2.2.2.2.2.2.2.2.2.2.2.2.2.2.2.2.2.2.2.2.2.2.2.2.2.2.2.2.2.1 hx
      refine xt_tableIn (tgt := 271) dX4_readBody_1 (by omega) (by omega) (by rw [hv]; rfl) (by decide) ?_
      refine xt_aload_n (j := 0) dX4_readBody_271 rfl rfl ?_
      refine xt_iload_n (j := 3) dX4_readBody_272 rfl rfl ?_
      obtain ⟨ho173, H⟩ := H
      refine xt_callV (h2 := h) (as := [.int x3]) (st := []) dX4_readBody_273 (mlX4_253 rfl) rfl ho173.1 ⟨by rw [ho173.2]; rfl, by rw [ho173.2]; decide⟩ (by first | decide | (simp [Value.category]; done)) (Nat.le_refl _) H (fun r M174 HH hE => ?_)
      obtain ⟨r175, hr, H⟩ := HH hE
      subst hr
      have ho173 := ok_E ho173 hE
      show T _ _ _ _ [.int r175] _ _
      exact xt_ireturn dX4_readBody_276 rfl H
    · have hx : x1 = 54 := i32_ofInt hv
      have H := H.2.2.2.2.2.2.2.2.2.2.2.2.2.2.2.2.2.2.2.2.2.2.2.2.2.2.2.2.2.2.2.2.2.2.2.2.2.1 hx
      refine xt_tableIn (tgt := 306) dX4_readBody_1 (by omega) (by omega) (by rw [hv]; rfl) (by decide) ?_
      refine xt_aload_n (j := 0) dX4_readBody_306 rfl rfl ?_
      obtain ⟨ho176, H⟩ := H
      obtain ⟨b177, hb, H⟩ := H
      refine xt_getR dX4_readBody_307 (flX4_20 rfl) ft_6_1 ho176.1 ho176.2 hb ?_
      refine xt_iconst (v := 0) dX4_readBody_310 (by decide) ?_
      obtain ⟨ho178, H⟩ := H
      refine xt_callV (h2 := h) (as := [.int 0]) (st := []) dX4_readBody_311 (mlX4_159 rfl) rfl ho178.1 ⟨by rw [ho178.2]; rfl, by rw [ho178.2]; decide⟩ (by first | decide | (simp [Value.category]; done)) (Nat.le_refl _) H (fun r M179 HH hE => ?_)
      obtain ⟨r180, hr, H⟩ := HH hE
      subst hr
      have ho176 := ok_E ho176 hE
      show T _ _ _ _ [.int r180] _ _
      exact xt_ireturn dX4_readBody_314 rfl H
    · have hx : x1 = 55 := i32_ofInt hv
      have H := H.2.2.2.2.2.2.2.2.2.2.2.2.2.2.2.2.2.2.2.2.2.2.2.2.2.2.2.2.2.2.2.2.2.2.2.2.2.2.1 hx
      refine xt_tableIn (tgt := 277) dX4_readBody_1 (by omega) (by omega) (by rw [hv]; rfl) (by decide) ?_
      refine xt_aload_n (j := 0) dX4_readBody_277 rfl rfl ?_
      refine xt_iload_n (j := 3) dX4_readBody_278 rfl rfl ?_
      obtain ⟨ho181, H⟩ := H
      refine xt_callV (h2 := h) (as := [.int x3]) (st := []) dX4_readBody_279 (mlX4_256 rfl) rfl ho181.1 ⟨by rw [ho181.2]; rfl, by rw [ho181.2]; decide⟩ (by first | decide | (simp [Value.category]; done)) (Nat.le_refl _) H (fun r M182 HH hE => ?_)
      obtain ⟨r183, hr, H⟩ := HH hE
      subst hr
      have ho181 := ok_E ho181 hE
      show T _ _ _ _ [.int r183] _ _
      exact xt_ireturn dX4_readBody_282 rfl H
    · have hx : x1 = 56 := i32_ofInt hv
      have H := H.2.2.2.2.2.2.2.2.2.2.2.2.2.2.2.2.2.2.2.2.2.2.2.2.2.2.2.2.2.2.2.2.2.2.2.2.2.2.2.1 hx
      refine xt_tableIn (tgt := 306) dX4_readBody_1 (by omega) (by omega) (by rw [hv]; rfl) (by decide) ?_
      refine xt_aload_n (j := 0) dX4_readBody_306 rfl rfl ?_
      obtain ⟨ho184, H⟩ := H
      obtain ⟨b185, hb, H⟩ := H
      refine xt_getR dX4_readBody_307 (flX4_20 rfl) ft_6_1 ho184.1 ho184.2 hb ?_
      refine xt_iconst (v := 0) dX4_readBody_310 (by decide) ?_
      obtain ⟨ho186, H⟩ := H
      refine xt_callV (h2 := h) (as := [.int 0]) (st := []) dX4_readBody_311 (mlX4_159 rfl) rfl ho186.1 ⟨by rw [ho186.2]; rfl, by rw [ho186.2]; decide⟩ (by first | decide | (simp [Value.category]; done)) (Nat.le_refl _) H (fun r M187 HH hE => ?_)
      obtain ⟨r188, hr, H⟩ := HH hE
      subst hr
      have ho184 := ok_E ho184 hE
      show T _ _ _ _ [.int r188] _ _
      exact xt_ireturn dX4_readBody_314 rfl H
    · have hx : x1 = 57 := i32_ofInt hv
      have H := H.2.2.2.2.2.2.2.2.2.2.2.2.2.2.2.2.2.2.2.2.2.2.2.2.2.2.2.2.2.2.2.2.2.2.2.2.2.2.2.2.1 hx
      refine xt_tableIn (tgt := 283) dX4_readBody_1 (by omega) (by omega) (by rw [hv]; rfl) (by decide) ?_
      refine xt_aload_n (j := 0) dX4_readBody_283 rfl rfl ?_
      obtain ⟨ho189, H⟩ := H
      refine xt_callV (h2 := h) (as := []) (st := []) dX4_readBody_284 (mlX4_259 rfl) rfl ho189.1 ⟨by rw [ho189.2]; rfl, by rw [ho189.2]; decide⟩ (by first | decide | (simp [Value.category]; done)) (Nat.le_refl _) H (fun r M190 HH hE => ?_)
      obtain ⟨r191, hr, H⟩ := HH hE
      subst hr
      have ho189 := ok_E ho189 hE
      show T _ _ _ _ [.int r191] _ _
      exact xt_ireturn dX4_readBody_287 rfl H
    · have hx : x1 = 58 := i32_ofInt hv
      have H := H.2.2.2.2.2.2.2.2.2.2.2.2.2.2.2.2.2.2.2.2.2.2.2.2.2.2.2.2.2.2.2.2.2.2.2.2.2.2.2.2.2.1 hx
      refine xt_tableIn (tgt := 288) dX4_readBody_1 (by omega) (by omega) (by rw [hv]; rfl) (by decide) ?_
      refine xt_aload_n (j := 0) dX4_readBody_288 rfl rfl ?_
      refine xt_aload_n (j := 0) dX4_readBody_289 rfl rfl ?_
      refine xt_aload_n (j := 2) dX4_readBody_290 rfl rfl ?_
      obtain ⟨ho192, H⟩ := H
      refine xt_callV (h2 := h) (as := [.ref x2]) (st := [.ref x0]) dX4_readBody_291 (mlX4_262 rfl) rfl ho192.1 ⟨by rw [ho192.2]; rfl, by rw [ho192.2]; decide⟩ (by first | decide | (simp [Value.category]; done)) (Nat.le_refl _) H (fun r M193 HH hE => ?_)
      obtain ⟨r194, hr, H⟩ := HH hE
      subst hr
      have ho192 := ok_E ho192 hE
      show T _ _ _ _ [.int r194, .ref x0] _ _
      refine xt_iload_n (j := 3) dX4_readBody_294 rfl rfl ?_
      refine xt_callV (h2 := h) (as := [.int r194, .int x3]) (st := []) dX4_readBody_295 (mlX4_237 rfl) rfl ho192.1 ⟨by rw [ho192.2]; rfl, by rw [ho192.2]; decide⟩ (by first | decide | (simp [Value.category]; done)) (Nat.le_refl _) H (fun r M195 HH hE => ?_)
      obtain ⟨r196, hr, H⟩ := HH hE
      subst hr
      have ho192 := ok_E ho192 hE
      show T _ _ _ _ [.int r196] _ _
      exact xt_ireturn dX4_readBody_298 rfl H
theorem KX4_readBody {h : Nat} {x0 : Nat} {x1 : Int32} {x2 : Nat} {x3 : Int32} {M : Mem} {Q : Option Value → Mem → Prop} (H : DX4_readBody_0 h x0 x1 x2 x3 M Q) : E (h + 1) mdX4_readBody [.ref x0, .int x1, .ref x2, .int x3] M Q := E.of (by decide) (Nat.le_of_ble_eq_true rfl) (fun _ _ _ => trivial) (VX4_readBody_0 H)
def DX4_readEmit_35 (h : Nat) (M : Mem) (Q : Option Value → Mem → Prop) : Prop :=
  Q (some (.int 0)) M
set_option maxRecDepth 20000 in
set_option maxHeartbeats 2000000 in
theorem VX4_readEmit_35 {h : Nat} {M : Mem} {Q : Option Value → Mem → Prop} (H : DX4_readEmit_35 h  M Q) : T (h + 1) mdX4_readEmit 35 [] [] M Q := by
  unfold DX4_readEmit_35 at H
  refine xt_iconst (v := 0) dX4_readEmit_35 (by decide) ?_
  exact xt_ireturn dX4_readEmit_36 rfl H
def DX4_readEmit_134 (h : Nat) (x0 : Nat) (x3 : Int32) (M : Mem) (Q : Option Value → Mem → Prop) : Prop :=
  ok M x0 6 ∧ ∃ b2 : Nat, mR M x0 1 = some b2 ∧ ok M b2 10 ∧ E h mdX8_emit [.ref b2, .int x3] M (fun r M4 => mE M M4 → ∃ r5 : Int32, r = some (.int r5) ∧ Q (some (.int r5)) M4)
set_option maxRecDepth 20000 in
set_option maxHeartbeats 2000000 in
theorem VX4_readEmit_134 {h : Nat} {x0 : Nat} {x3 : Int32} {M : Mem} {Q : Option Value → Mem → Prop} (H : DX4_readEmit_134 h x0 x3 M Q) : T (h + 1) mdX4_readEmit 134 [(0, .ref x0), (3, .int x3)] [] M Q := by
  unfold DX4_readEmit_134 at H
  refine xt_aload_n (j := 0) dX4_readEmit_134 rfl rfl ?_
  obtain ⟨ho1, H⟩ := H
  obtain ⟨b2, hb, H⟩ := H
  refine xt_getR dX4_readEmit_135 (flX4_20 rfl) ft_6_1 ho1.1 ho1.2 hb ?_
  refine xt_iload_n (j := 1) dX4_readEmit_138 rfl rfl ?_
  obtain ⟨ho3, H⟩ := H
  refine xt_callV (h2 := h) (as := [.int x3]) (st := []) dX4_readEmit_139 (mlX4_294 rfl) rfl ho3.1 ⟨by rw [ho3.2]; rfl, by rw [ho3.2]; decide⟩ (by first | decide | (simp [Value.category]; done)) (Nat.le_refl _) H (fun r M4 HH hE => ?_)
  obtain ⟨r5, hr, H⟩ := HH hE
  subst hr
  have ho1 := ok_E ho1 hE
  show T _ _ _ _ [.int r5] _ _
  exact xt_ireturn dX4_readEmit_142 rfl H
def DX4_readEmit_75 (h : Nat) (x0 : Nat) (x1 : Nat) (x2 : Int32) (x3 : Int32) (x4 : Int32) (s0 : Int32) (s1 : Int32) (M : Mem) (Q : Option Value → Mem → Prop) : Prop :=
  (s0 = s1 → (x4 = 0 → DX4_readEmit_134 h x0 x3 M Q) ∧
  (¬ (x4 = 0) → ok M x1 5 ∧ ∀ M2 : Mem, M2 = wI M x1 3 1 →
  ∀ M3 : Mem, M3 = wI M2 x1 4 x3 →
  ok M3 x0 6 ∧ ∃ b5 : Nat, mR M3 x0 7 = some b5 ∧ ok M3 b5 3 ∧ ∃ b7 : Nat, mR M3 b5 8 = some b7 ∧ ok M3 b7 8 ∧ ∀ M9 : Mem, M9 = wI M3 x1 5 (mI M3 b7 1) →
  E h mdX4_readInBrackets [.ref x0] M9 (fun r M10 => mE M9 M10 → r = none ∧ ∃ b11 : Nat, mR M10 x0 7 = some b11 ∧ ok M10 b11 3 ∧ ∃ b13 : Nat, mR M10 b11 8 = some b13 ∧ ok M10 b13 8 ∧ E h mdX6_add [.ref b13, .int 0] M10 (fun r M15 => mE M10 M15 → r = none ∧ DX4_readEmit_134 h x0 x3 M15 Q)))) ∧
  (¬ (s0 = s1) → ok M x0 6 ∧ ∃ b17 : Nat, mR M x0 0 = some b17 ∧ ok M b17 9 ∧ E h mdX7_failAt [.ref b17, .int 5, .int x2] M (fun r M19 => mE M M19 → r = none ∧ DX4_readEmit_134 h x0 x3 M19 Q))
set_option maxRecDepth 20000 in
set_option maxHeartbeats 2000000 in
theorem VX4_readEmit_75 {h : Nat} {x0 : Nat} {x1 : Nat} {x2 : Int32} {x3 : Int32} {x4 : Int32} {s0 : Int32} {s1 : Int32} {M : Mem} {Q : Option Value → Mem → Prop} (H : DX4_readEmit_75 h x0 x1 x2 x3 x4 s0 s1 M Q) : T (h + 1) mdX4_readEmit 75 [(0, .ref x0), (1, .ref x1), (2, .int x2), (3, .int x3), (4, .int x4)] [.int s1, .int s0] M Q := by
  unfold DX4_readEmit_75 at H
  refine xt_icmp_eq (tgt := 90) dX4_readEmit_75 (by decide) (fun hc => ?_) (fun hc => ?_)
  · have H := H.1 hc
    refine xt_iload (j := 4) dX4_readEmit_90 rfl ?_
    refine xt_if_eq (tgt := 134) dX4_readEmit_92 (by decide) (fun hc => ?_) (fun hc => ?_)
    · have H := H.1 hc
      exact xt_sub [0, 3] rfl (VX4_readEmit_134 H)
    · have H := H.2 hc
      refine xt_aload_n (j := 1) dX4_readEmit_95 rfl rfl ?_
      refine xt_iconst (v := 1) dX4_readEmit_96 (by decide) ?_
      obtain ⟨ho1, H⟩ := H
      obtain ⟨M2, eM2⟩ : ∃ z, z = wI M x1 3 1 := ⟨_, rfl⟩
      have H := H _ eM2
      refine xt_putI dX4_readEmit_97 (flX4_271 rfl) ty_5_3 rfl ho1.1 ho1.2 ?_
      have ho1 : ok M2 x1 5 := by rw [eM2]; exact ho1
      rw [← eM2]
      refine xt_aload_n (j := 1) dX4_readEmit_100 rfl rfl ?_
      refine xt_iload_n (j := 3) dX4_readEmit_101 rfl rfl ?_
      obtain ⟨M3, eM3⟩ : ∃ z, z = wI M2 x1 4 x3 := ⟨_, rfl⟩
      have H := H _ eM3
      refine xt_putI dX4_readEmit_102 (flX4_274 rfl) ty_5_4 rfl ho1.1 ho1.2 ?_
      have ho1 : ok M3 x1 5 := by rw [eM3]; exact ho1
      rw [← eM3]
      refine xt_aload_n (j := 1) dX4_readEmit_105 rfl rfl ?_
      refine xt_aload_n (j := 0) dX4_readEmit_106 rfl rfl ?_
      obtain ⟨ho4, H⟩ := H
      obtain ⟨b5, hb, H⟩ := H
      refine xt_getR dX4_readEmit_107 (flX4_31 rfl) ft_6_7 ho4.1 ho4.2 hb ?_
      obtain ⟨ho6, H⟩ := H
      obtain ⟨b7, hb, H⟩ := H
      refine xt_getR dX4_readEmit_110 (flX4_277 rfl) ft_3_8 ho6.1 ho6.2 hb ?_
      obtain ⟨ho8, H⟩ := H
      refine xt_getI dX4_readEmit_113 (flX4_281 rfl) ft_8_1 ho8.1 ho8.2 ?_
      obtain ⟨M9, eM9⟩ : ∃ z, z = wI M3 x1 5 (mI M3 b7 1) := ⟨_, rfl⟩
      have H := H _ eM9
      refine xt_putI dX4_readEmit_116 (flX4_286 rfl) ty_5_5 rfl ho1.1 ho1.2 ?_
      have ho1 : ok M9 x1 5 := by rw [eM9]; exact ho1
      have ho4 : ok M9 x0 6 := by rw [eM9]; exact ho4
      rw [← eM9]
      refine xt_aload_n (j := 0) dX4_readEmit_119 rfl rfl ?_
      refine xt_callV (h2 := h) (as := []) (st := []) dX4_readEmit_120 (mlX4_289 rfl) rfl ho4.1 ⟨by rw [ho4.2]; rfl, by rw [ho4.2]; decide⟩ (by first | decide | (simp [Value.category]; done)) (Nat.le_refl _) H (fun r M10 HH hE => ?_)
      obtain ⟨hr, H⟩ := HH hE
      subst hr
      have ho1 := ok_E ho1 hE
      have ho4 := ok_E ho4 hE
      show T _ _ _ _ [] _ _
      refine xt_aload_n (j := 0) dX4_readEmit_123 rfl rfl ?_
      obtain ⟨b11, hb, H⟩ := H
      refine xt_getR dX4_readEmit_124 (flX4_31 rfl) ft_6_7 ho4.1 ho4.2 hb ?_
      obtain ⟨ho12, H⟩ := H
      obtain ⟨b13, hb, H⟩ := H
      refine xt_getR dX4_readEmit_127 (flX4_277 rfl) ft_3_8 ho12.1 ho12.2 hb ?_
      refine xt_iconst (v := 0) dX4_readEmit_130 (by decide) ?_
      obtain ⟨ho14, H⟩ := H
      refine xt_callV (h2 := h) (as := [.int 0]) (st := []) dX4_readEmit_131 (mlX4_292 rfl) rfl ho14.1 ⟨by rw [ho14.2]; rfl, by rw [ho14.2]; decide⟩ (by first | decide | (simp [Value.category]; done)) (Nat.le_refl _) H (fun r M15 HH hE => ?_)
      obtain ⟨hr, H⟩ := HH hE
      subst hr
      have ho1 := ok_E ho1 hE
      have ho4 := ok_E ho4 hE
      show T _ _ _ _ [] _ _
      exact xt_sub [0, 3] rfl (VX4_readEmit_134 H)
  · have H := H.2 hc
    refine xt_aload_n (j := 0) dX4_readEmit_78 rfl rfl ?_
    obtain ⟨ho16, H⟩ := H
    obtain ⟨b17, hb, H⟩ := H
    refine xt_getR dX4_readEmit_79 (flX4_14 rfl) ft_6_0 ho16.1 ho16.2 hb ?_
    refine xt_iconst (v := 5) dX4_readEmit_82 (by decide) ?_
    refine xt_iload_n (j := 2) dX4_readEmit_83 rfl rfl ?_
    obtain ⟨ho18, H⟩ := H
    refine xt_callV (h2 := h) (as := [.int 5, .int x2]) (st := []) dX4_readEmit_84 (mlX4_104 rfl) rfl ho18.1 ⟨by rw [ho18.2]; rfl, by rw [ho18.2]; decide⟩ (by first | decide | (simp [Value.category]; done)) (Nat.le_refl _) H (fun r M19 HH hE => ?_)
    obtain ⟨hr, H⟩ := HH hE
    subst hr
    have ho16 := ok_E ho16 hE
    show T _ _ _ _ [] _ _
    refine xt_goto (tgt := 134) dX4_readEmit_87 (by decide) ?_
    exact xt_sub [0, 3] rfl (VX4_readEmit_134 H)
def DX4_readEmit_54 (h : Nat) (x0 : Nat) (x1 : Nat) (x2 : Int32) (x3 : Int32) (s0 : Int32) (M : Mem) (Q : Option Value → Mem → Prop) : Prop :=
  ok M x0 6 ∧ ∃ b2 : Nat, mR M x0 0 = some b2 ∧ ok M b2 9 ∧ (¬ (mI M b2 9) = 15 → DX4_readEmit_75 h x0 x1 x2 x3 s0 s0 0 M Q) ∧
  ((mI M b2 9) = 15 → DX4_readEmit_75 h x0 x1 x2 x3 s0 s0 1 M Q)
set_option maxRecDepth 20000 in
set_option maxHeartbeats 2000000 in
theorem VX4_readEmit_54 {h : Nat} {x0 : Nat} {x1 : Nat} {x2 : Int32} {x3 : Int32} {s0 : Int32} {M : Mem} {Q : Option Value → Mem → Prop} (H : DX4_readEmit_54 h x0 x1 x2 x3 s0 M Q) : T (h + 1) mdX4_readEmit 54 [(0, .ref x0), (1, .ref x1), (2, .int x2), (3, .int x3)] [.int s0] M Q := by
  unfold DX4_readEmit_54 at H
  refine xt_istore (lv' := [(4, .int s0), (0, .ref x0), (1, .ref x1), (2, .int x2), (3, .int x3)]) dX4_readEmit_54 (by decide) rfl ?_
  refine xt_iload (j := 0) dX4_readEmit_56 rfl ?_
  refine xt_aload_n (j := 1) dX4_readEmit_58 rfl rfl ?_
  obtain ⟨ho1, H⟩ := H
  obtain ⟨b2, hb, H⟩ := H
  refine xt_getR dX4_readEmit_59 (flX4_14 rfl) ft_6_0 ho1.1 ho1.2 hb ?_
  obtain ⟨ho3, H⟩ := H
  refine xt_getI dX4_readEmit_62 (flX4_66 rfl) ft_9_9 ho3.1 ho3.2 ?_
  refine xt_bipush (v := 15) dX4_readEmit_65 (by decide) ?_
  refine xt_icmp_ne (tgt := 74) dX4_readEmit_67 (by decide) (fun hc => ?_) (fun hc => ?_)
  · have H := H.1 hc
    refine xt_iconst (v := 0) dX4_readEmit_74 (by decide) ?_
    exact xt_sub [1, 2, 3, 4, 0] rfl (VX4_readEmit_75 H)
  · have H := H.2 hc
    refine xt_iconst (v := 1) dX4_readEmit_70 (by decide) ?_
    refine xt_goto (tgt := 75) dX4_readEmit_71 (by decide) ?_
    exact xt_sub [1, 2, 3, 4, 0] rfl (VX4_readEmit_75 H)
def DX4_readEmit_0 (h : Nat) (x0 : Nat) (x1 : Nat) (M : Mem) (Q : Option Value → Mem → Prop) : Prop :=
  ok M x0 6 ∧ ∃ b2 : Nat, mR M x0 0 = some b2 ∧ ok M b2 9 ∧ E h mdX4_emittedSignal [.ref x0] M (fun r M4 => mE M M4 → ∃ r5 : Int32, r = some (.int r5) ∧ ∃ b6 : Nat, mR M4 x0 0 = some b6 ∧ ok M4 b6 9 ∧ E h mdX7_advance [.ref b6] M4 (fun r M8 => mE M4 M8 → r = none ∧ (r5 = (-1) → DX4_readEmit_35 h  M8 Q) ∧
  (¬ (r5 = (-1)) → ∃ b9 : Nat, mR M8 x0 0 = some b9 ∧ ok M8 b9 9 ∧ ((mI M8 b9 12) = 0 → ∃ b11 : Nat, mR M8 x0 7 = some b11 ∧ ok M8 b11 3 ∧ ∃ b13 : Nat, mR M8 b11 2 = some b13 ∧ ok M8 b13 21 ∧ vp_in r5 (mL M8 b13) ∧ ((mAI M8 b13 (r5 : Int32).toNatClampNeg) = 0 → DX4_readEmit_54 h x0 x1 (mI M b2 10) r5 0 M8 Q) ∧
  (¬ ((mAI M8 b13 (r5 : Int32).toNatClampNeg) = 0) → DX4_readEmit_54 h x0 x1 (mI M b2 10) r5 1 M8 Q)) ∧
  (¬ ((mI M8 b9 12) = 0) → DX4_readEmit_35 h  M8 Q))))
set_option maxRecDepth 20000 in
set_option maxHeartbeats 2000000 in
theorem VX4_readEmit_0 {h : Nat} {x0 : Nat} {x1 : Nat} {M : Mem} {Q : Option Value → Mem → Prop} (H : DX4_readEmit_0 h x0 x1 M Q) : T (h + 1) mdX4_readEmit 0 [(0, .ref x0), (1, .ref x1)] [] M Q := by
  unfold DX4_readEmit_0 at H
  refine xt_aload_n (j := 0) dX4_readEmit_0 rfl rfl ?_
  obtain ⟨ho1, H⟩ := H
  obtain ⟨b2, hb, H⟩ := H
  refine xt_getR dX4_readEmit_1 (flX4_14 rfl) ft_6_0 ho1.1 ho1.2 hb ?_
  obtain ⟨ho3, H⟩ := H
  refine xt_getI dX4_readEmit_4 (flX4_171 rfl) ft_9_10 ho3.1 ho3.2 ?_
  refine xt_istore_n (lv' := [(2, .int (mI M b2 10)), (0, .ref x0), (1, .ref x1)]) dX4_readEmit_7 rfl (by decide) rfl ?_
  refine xt_aload_n (j := 1) dX4_readEmit_8 rfl rfl ?_
  refine xt_callV (h2 := h) (as := []) (st := []) dX4_readEmit_9 (mlX4_268 rfl) rfl ho1.1 ⟨by rw [ho1.2]; rfl, by rw [ho1.2]; decide⟩ (by first | decide | (simp [Value.category]; done)) (Nat.le_refl _) H (fun r M4 HH hE => ?_)
  obtain ⟨r5, hr, H⟩ := HH hE
  subst hr
  have ho1 := ok_E ho1 hE
  show T _ _ _ _ [.int r5] _ _
  refine xt_istore_n (lv' := [(3, .int r5), (2, .int (mI M b2 10)), (0, .ref x0), (1, .ref x1)]) dX4_readEmit_12 rfl (by decide) rfl ?_
  refine xt_aload_n (j := 2) dX4_readEmit_13 rfl rfl ?_
  obtain ⟨b6, hb, H⟩ := H
  refine xt_getR dX4_readEmit_14 (flX4_14 rfl) ft_6_0 ho1.1 ho1.2 hb ?_
  obtain ⟨ho7, H⟩ := H
  refine xt_callV (h2 := h) (as := []) (st := []) dX4_readEmit_17 (mlX4_117 rfl) rfl ho7.1 ⟨by rw [ho7.2]; rfl, by rw [ho7.2]; decide⟩ (by first | decide | (simp [Value.category]; done)) (Nat.le_refl _) H (fun r M8 HH hE => ?_)
  obtain ⟨hr, H⟩ := HH hE
  subst hr
  have ho1 := ok_E ho1 hE
  show T _ _ _ _ [] _ _
  refine xt_iload_n (j := 0) dX4_readEmit_20 rfl rfl ?_
  refine xt_iconst (v := -1) dX4_readEmit_21 (by decide) ?_
  refine xt_icmp_eq (tgt := 35) dX4_readEmit_22 (by decide) (fun hc => ?_) (fun hc => ?_)
  · have H := H.1 hc
    exact xt_sub [] rfl (VX4_readEmit_35 H)
  · have H := H.2 hc
    refine xt_aload_n (j := 2) dX4_readEmit_25 rfl rfl ?_
    obtain ⟨b9, hb, H⟩ := H
    refine xt_getR dX4_readEmit_26 (flX4_14 rfl) ft_6_0 ho1.1 ho1.2 hb ?_
    obtain ⟨ho10, H⟩ := H
    refine xt_getI dX4_readEmit_29 (flX4_79 rfl) ft_9_12 ho10.1 ho10.2 ?_
    refine xt_if_eq (tgt := 37) dX4_readEmit_32 (by decide) (fun hc => ?_) (fun hc => ?_)
    · have H := H.1 hc
      refine xt_aload_n (j := 2) dX4_readEmit_37 rfl rfl ?_
      obtain ⟨b11, hb, H⟩ := H
      refine xt_getR dX4_readEmit_38 (flX4_31 rfl) ft_6_7 ho1.1 ho1.2 hb ?_
      obtain ⟨ho12, H⟩ := H
      obtain ⟨b13, hb, H⟩ := H
      refine xt_getR dX4_readEmit_41 (flX4_138 rfl) ft_3_2 ho12.1 ho12.2 hb ?_
      refine xt_iload_n (j := 0) dX4_readEmit_44 rfl rfl ?_
      obtain ⟨ho14, H⟩ := H
      obtain ⟨hi, H⟩ := H
      refine xt_iald dX4_readEmit_45 ho14.1 ho14.2 hi ?_
      refine xt_if_eq (tgt := 53) dX4_readEmit_46 (by decide) (fun hc => ?_) (fun hc => ?_)
      · have H := H.1 hc
        refine xt_iconst (v := 0) dX4_readEmit_53 (by decide) ?_
        exact xt_sub [2, 3, 1, 0] rfl (VX4_readEmit_54 H)
      · have H := H.2 hc
        refine xt_iconst (v := 1) dX4_readEmit_49 (by decide) ?_
        refine xt_goto (tgt := 54) dX4_readEmit_50 (by decide) ?_
        exact xt_sub [2, 3, 1, 0] rfl (VX4_readEmit_54 H)
    · have H := H.2 hc
      exact xt_sub [] rfl (VX4_readEmit_35 H)
theorem KX4_readEmit {h : Nat} {x0 : Nat} {x1 : Nat} {M : Mem} {Q : Option Value → Mem → Prop} (H : DX4_readEmit_0 h x0 x1 M Q) : E (h + 1) mdX4_readEmit [.ref x0, .ref x1] M Q := E.of (by decide) (Nat.le_of_ble_eq_true rfl) (fun _ _ _ => trivial) (VX4_readEmit_0 H)
def DX4_readSustain_35 (h : Nat) (M : Mem) (Q : Option Value → Mem → Prop) : Prop :=
  Q (some (.int 0)) M
set_option maxRecDepth 20000 in
set_option maxHeartbeats 2000000 in
theorem VX4_readSustain_35 {h : Nat} {M : Mem} {Q : Option Value → Mem → Prop} (H : DX4_readSustain_35 h  M Q) : T (h + 1) mdX4_readSustain 35 [] [] M Q := by
  unfold DX4_readSustain_35 at H
  refine xt_iconst (v := 0) dX4_readSustain_35 (by decide) ?_
  exact xt_ireturn dX4_readSustain_36 rfl H
def DX4_readSustain_58 (h : Nat) (x0 : Nat) (x2 : Int32) (M : Mem) (Q : Option Value → Mem → Prop) : Prop :=
  ok M x0 6 ∧ ∃ b2 : Nat, mR M x0 1 = some b2 ∧ ok M b2 10 ∧ E h mdX8_sustain [.ref b2, .int x2] M (fun r M4 => mE M M4 → ∃ r5 : Int32, r = some (.int r5) ∧ Q (some (.int r5)) M4)
set_option maxRecDepth 20000 in
set_option maxHeartbeats 2000000 in
theorem VX4_readSustain_58 {h : Nat} {x0 : Nat} {x2 : Int32} {M : Mem} {Q : Option Value → Mem → Prop} (H : DX4_readSustain_58 h x0 x2 M Q) : T (h + 1) mdX4_readSustain 58 [(0, .ref x0), (2, .int x2)] [] M Q := by
  unfold DX4_readSustain_58 at H
  refine xt_aload_n (j := 0) dX4_readSustain_58 rfl rfl ?_
  obtain ⟨ho1, H⟩ := H
  obtain ⟨b2, hb, H⟩ := H
  refine xt_getR dX4_readSustain_59 (flX4_20 rfl) ft_6_1 ho1.1 ho1.2 hb ?_
  refine xt_iload_n (j := 1) dX4_readSustain_62 rfl rfl ?_
  obtain ⟨ho3, H⟩ := H
  refine xt_callV (h2 := h) (as := [.int x2]) (st := []) dX4_readSustain_63 (mlX4_297 rfl) rfl ho3.1 ⟨by rw [ho3.2]; rfl, by rw [ho3.2]; decide⟩ (by first | decide | (simp [Value.category]; done)) (Nat.le_refl _) H (fun r M4 HH hE => ?_)
  obtain ⟨r5, hr, H⟩ := HH hE
  subst hr
  have ho1 := ok_E ho1 hE
  show T _ _ _ _ [.int r5] _ _
  exact xt_ireturn dX4_readSustain_66 rfl H
def DX4_readSustain_0 (h : Nat) (x0 : Nat) (M : Mem) (Q : Option Value → Mem → Prop) : Prop :=
  ok M x0 6 ∧ ∃ b2 : Nat, mR M x0 0 = some b2 ∧ ok M b2 9 ∧ E h mdX4_emittedSignal [.ref x0] M (fun r M4 => mE M M4 → ∃ r5 : Int32, r = some (.int r5) ∧ ∃ b6 : Nat, mR M4 x0 0 = some b6 ∧ ok M4 b6 9 ∧ E h mdX7_advance [.ref b6] M4 (fun r M8 => mE M4 M8 → r = none ∧ (r5 = (-1) → DX4_readSustain_35 h  M8 Q) ∧
  (¬ (r5 = (-1)) → ∃ b9 : Nat, mR M8 x0 0 = some b9 ∧ ok M8 b9 9 ∧ ((mI M8 b9 12) = 0 → ∃ b11 : Nat, mR M8 x0 7 = some b11 ∧ ok M8 b11 3 ∧ ∃ b13 : Nat, mR M8 b11 2 = some b13 ∧ ok M8 b13 21 ∧ vp_in r5 (mL M8 b13) ∧ ((mAI M8 b13 (r5 : Int32).toNatClampNeg) = 0 → DX4_readSustain_58 h x0 r5 M8 Q) ∧
  (¬ ((mAI M8 b13 (r5 : Int32).toNatClampNeg) = 0) → ∃ b15 : Nat, mR M8 x0 0 = some b15 ∧ ok M8 b15 9 ∧ E h mdX7_failAt [.ref b15, .int 5, .int (mI M b2 10)] M8 (fun r M17 => mE M8 M17 → r = none ∧ DX4_readSustain_58 h x0 r5 M17 Q))) ∧
  (¬ ((mI M8 b9 12) = 0) → DX4_readSustain_35 h  M8 Q))))
set_option maxRecDepth 20000 in
set_option maxHeartbeats 2000000 in
theorem VX4_readSustain_0 {h : Nat} {x0 : Nat} {M : Mem} {Q : Option Value → Mem → Prop} (H : DX4_readSustain_0 h x0 M Q) : T (h + 1) mdX4_readSustain 0 [(0, .ref x0)] [] M Q := by
  unfold DX4_readSustain_0 at H
  refine xt_aload_n (j := 0) dX4_readSustain_0 rfl rfl ?_
  obtain ⟨ho1, H⟩ := H
  obtain ⟨b2, hb, H⟩ := H
  refine xt_getR dX4_readSustain_1 (flX4_14 rfl) ft_6_0 ho1.1 ho1.2 hb ?_
  obtain ⟨ho3, H⟩ := H
  refine xt_getI dX4_readSustain_4 (flX4_171 rfl) ft_9_10 ho3.1 ho3.2 ?_
  refine xt_istore_n (lv' := [(1, .int (mI M b2 10)), (0, .ref x0)]) dX4_readSustain_7 rfl (by decide) rfl ?_
  refine xt_aload_n (j := 1) dX4_readSustain_8 rfl rfl ?_
  refine xt_callV (h2 := h) (as := []) (st := []) dX4_readSustain_9 (mlX4_268 rfl) rfl ho1.1 ⟨by rw [ho1.2]; rfl, by rw [ho1.2]; decide⟩ (by first | decide | (simp [Value.category]; done)) (Nat.le_refl _) H (fun r M4 HH hE => ?_)
  obtain ⟨r5, hr, H⟩ := HH hE
  subst hr
  have ho1 := ok_E ho1 hE
  show T _ _ _ _ [.int r5] _ _
  refine xt_istore_n (lv' := [(2, .int r5), (1, .int (mI M b2 10)), (0, .ref x0)]) dX4_readSustain_12 rfl (by decide) rfl ?_
  refine xt_aload_n (j := 2) dX4_readSustain_13 rfl rfl ?_
  obtain ⟨b6, hb, H⟩ := H
  refine xt_getR dX4_readSustain_14 (flX4_14 rfl) ft_6_0 ho1.1 ho1.2 hb ?_
  obtain ⟨ho7, H⟩ := H
  refine xt_callV (h2 := h) (as := []) (st := []) dX4_readSustain_17 (mlX4_117 rfl) rfl ho7.1 ⟨by rw [ho7.2]; rfl, by rw [ho7.2]; decide⟩ (by first | decide | (simp [Value.category]; done)) (Nat.le_refl _) H (fun r M8 HH hE => ?_)
  obtain ⟨hr, H⟩ := HH hE
  subst hr
  have ho1 := ok_E ho1 hE
  show T _ _ _ _ [] _ _
  refine xt_iload_n (j := 0) dX4_readSustain_20 rfl rfl ?_
  refine xt_iconst (v := -1) dX4_readSustain_21 (by decide) ?_
  refine xt_icmp_eq (tgt := 35) dX4_readSustain_22 (by decide) (fun hc => ?_) (fun hc => ?_)
  · have H := H.1 hc
    exact xt_sub [] rfl (VX4_readSustain_35 H)
  · have H := H.2 hc
    refine xt_aload_n (j := 2) dX4_readSustain_25 rfl rfl ?_
    obtain ⟨b9, hb, H⟩ := H
    refine xt_getR dX4_readSustain_26 (flX4_14 rfl) ft_6_0 ho1.1 ho1.2 hb ?_
    obtain ⟨ho10, H⟩ := H
    refine xt_getI dX4_readSustain_29 (flX4_79 rfl) ft_9_12 ho10.1 ho10.2 ?_
    refine xt_if_eq (tgt := 37) dX4_readSustain_32 (by decide) (fun hc => ?_) (fun hc => ?_)
    · have H := H.1 hc
      refine xt_aload_n (j := 2) dX4_readSustain_37 rfl rfl ?_
      obtain ⟨b11, hb, H⟩ := H
      refine xt_getR dX4_readSustain_38 (flX4_31 rfl) ft_6_7 ho1.1 ho1.2 hb ?_
      obtain ⟨ho12, H⟩ := H
      obtain ⟨b13, hb, H⟩ := H
      refine xt_getR dX4_readSustain_41 (flX4_138 rfl) ft_3_2 ho12.1 ho12.2 hb ?_
      refine xt_iload_n (j := 0) dX4_readSustain_44 rfl rfl ?_
      obtain ⟨ho14, H⟩ := H
      obtain ⟨hi, H⟩ := H
      refine xt_iald dX4_readSustain_45 ho14.1 ho14.2 hi ?_
      refine xt_if_eq (tgt := 58) dX4_readSustain_46 (by decide) (fun hc => ?_) (fun hc => ?_)
      · have H := H.1 hc
        exact xt_sub [2, 0] rfl (VX4_readSustain_58 H)
      · have H := H.2 hc
        refine xt_aload_n (j := 2) dX4_readSustain_49 rfl rfl ?_
        obtain ⟨b15, hb, H⟩ := H
        refine xt_getR dX4_readSustain_50 (flX4_14 rfl) ft_6_0 ho1.1 ho1.2 hb ?_
        refine xt_iconst (v := 5) dX4_readSustain_53 (by decide) ?_
        refine xt_iload_n (j := 1) dX4_readSustain_54 rfl rfl ?_
        obtain ⟨ho16, H⟩ := H
        refine xt_callV (h2 := h) (as := [.int 5, .int (mI M b2 10)]) (st := []) dX4_readSustain_55 (mlX4_104 rfl) rfl ho16.1 ⟨by rw [ho16.2]; rfl, by rw [ho16.2]; decide⟩ (by first | decide | (simp [Value.category]; done)) (Nat.le_refl _) H (fun r M17 HH hE => ?_)
        obtain ⟨hr, H⟩ := HH hE
        subst hr
        have ho1 := ok_E ho1 hE
        show T _ _ _ _ [] _ _
        exact xt_sub [2, 0] rfl (VX4_readSustain_58 H)
    · have H := H.2 hc
      exact xt_sub [] rfl (VX4_readSustain_35 H)
theorem KX4_readSustain {h : Nat} {x0 : Nat} {M : Mem} {Q : Option Value → Mem → Prop} (H : DX4_readSustain_0 h x0 M Q) : E (h + 1) mdX4_readSustain [.ref x0] M Q := E.of (by decide) (Nat.le_of_ble_eq_true rfl) (fun _ _ _ => trivial) (VX4_readSustain_0 H)
def DX4_emittedSignal_34 (h : Nat) (x1 : Int32) (M : Mem) (Q : Option Value → Mem → Prop) : Prop :=
  Q (some (.int x1)) M
set_option maxRecDepth 20000 in
set_option maxHeartbeats 2000000 in
theorem VX4_emittedSignal_34 {h : Nat} {x1 : Int32} {M : Mem} {Q : Option Value → Mem → Prop} (H : DX4_emittedSignal_34 h x1 M Q) : T (h + 1) mdX4_emittedSignal 34 [(1, .int x1)] [] M Q := by
  unfold DX4_emittedSignal_34 at H
  refine xt_iload_n (j := 0) dX4_emittedSignal_34 rfl rfl ?_
  exact xt_ireturn dX4_emittedSignal_35 rfl H
def DX4_emittedSignal_0 (h : Nat) (x0 : Nat) (M : Mem) (Q : Option Value → Mem → Prop) : Prop :=
  ok M x0 6 ∧ E h mdX4_toldSignal [.ref x0] M (fun r M2 => mE M M2 → ∃ r3 : Int32, r = some (.int r3) ∧ (r3 = (-1) → DX4_emittedSignal_34 h r3 M2 Q) ∧
  (¬ (r3 = (-1)) → ∃ b4 : Nat, mR M2 x0 7 = some b4 ∧ ok M2 b4 3 ∧ ∃ b6 : Nat, mR M2 b4 1 = some b6 ∧ ok M2 b6 21 ∧ vp_in r3 (mL M2 b6) ∧ (¬ (mAI M2 b6 (r3 : Int32).toNatClampNeg) = 30 → DX4_emittedSignal_34 h r3 M2 Q) ∧
  ((mAI M2 b6 (r3 : Int32).toNatClampNeg) = 30 → ∃ b8 : Nat, mR M2 x0 0 = some b8 ∧ ok M2 b8 9 ∧ E h mdX7_fail [.ref b8, .int 4] M2 (fun r M10 => mE M2 M10 → r = none ∧ Q (some (.int (-1))) M10))))
set_option maxRecDepth 20000 in
set_option maxHeartbeats 2000000 in
theorem VX4_emittedSignal_0 {h : Nat} {x0 : Nat} {M : Mem} {Q : Option Value → Mem → Prop} (H : DX4_emittedSignal_0 h x0 M Q) : T (h + 1) mdX4_emittedSignal 0 [(0, .ref x0)] [] M Q := by
  unfold DX4_emittedSignal_0 at H
  refine xt_aload_n (j := 0) dX4_emittedSignal_0 rfl rfl ?_
  obtain ⟨ho1, H⟩ := H
  refine xt_callV (h2 := h) (as := []) (st := []) dX4_emittedSignal_1 (mlX4_300 rfl) rfl ho1.1 ⟨by rw [ho1.2]; rfl, by rw [ho1.2]; decide⟩ (by first | decide | (simp [Value.category]; done)) (Nat.le_refl _) H (fun r M2 HH hE => ?_)
  obtain ⟨r3, hr, H⟩ := HH hE
  subst hr
  have ho1 := ok_E ho1 hE
  show T _ _ _ _ [.int r3] _ _
  refine xt_istore_n (lv' := [(1, .int r3), (0, .ref x0)]) dX4_emittedSignal_4 rfl (by decide) rfl ?_
  refine xt_iload_n (j := 0) dX4_emittedSignal_5 rfl rfl ?_
  refine xt_iconst (v := -1) dX4_emittedSignal_6 (by decide) ?_
  refine xt_icmp_eq (tgt := 34) dX4_emittedSignal_7 (by decide) (fun hc => ?_) (fun hc => ?_)
  · have H := H.1 hc
    exact xt_sub [0] rfl (VX4_emittedSignal_34 H)
  · have H := H.2 hc
    refine xt_aload_n (j := 1) dX4_emittedSignal_10 rfl rfl ?_
    obtain ⟨b4, hb, H⟩ := H
    refine xt_getR dX4_emittedSignal_11 (flX4_31 rfl) ft_6_7 ho1.1 ho1.2 hb ?_
    obtain ⟨ho5, H⟩ := H
    obtain ⟨b6, hb, H⟩ := H
    refine xt_getR dX4_emittedSignal_14 (flX4_303 rfl) ft_3_1 ho5.1 ho5.2 hb ?_
    refine xt_iload_n (j := 0) dX4_emittedSignal_17 rfl rfl ?_
    obtain ⟨ho7, H⟩ := H
    obtain ⟨hi, H⟩ := H
    refine xt_iald dX4_emittedSignal_18 ho7.1 ho7.2 hi ?_
    refine xt_bipush (v := 30) dX4_emittedSignal_19 (by decide) ?_
    refine xt_icmp_ne (tgt := 34) dX4_emittedSignal_21 (by decide) (fun hc => ?_) (fun hc => ?_)
    · have H := H.1 hc
      exact xt_sub [0] rfl (VX4_emittedSignal_34 H)
    · have H := H.2 hc
      refine xt_aload_n (j := 1) dX4_emittedSignal_24 rfl rfl ?_
      obtain ⟨b8, hb, H⟩ := H
      refine xt_getR dX4_emittedSignal_25 (flX4_14 rfl) ft_6_0 ho1.1 ho1.2 hb ?_
      refine xt_iconst (v := 4) dX4_emittedSignal_28 (by decide) ?_
      obtain ⟨ho9, H⟩ := H
      refine xt_callV (h2 := h) (as := [.int 4]) (st := []) dX4_emittedSignal_29 (mlX4_69 rfl) rfl ho9.1 ⟨by rw [ho9.2]; rfl, by rw [ho9.2]; decide⟩ (by first | decide | (simp [Value.category]; done)) (Nat.le_refl _) H (fun r M10 HH hE => ?_)
      obtain ⟨hr, H⟩ := HH hE
      subst hr
      have ho1 := ok_E ho1 hE
      show T _ _ _ _ [] _ _
      refine xt_iconst (v := -1) dX4_emittedSignal_32 (by decide) ?_
      exact xt_ireturn dX4_emittedSignal_33 rfl H
theorem KX4_emittedSignal {h : Nat} {x0 : Nat} {M : Mem} {Q : Option Value → Mem → Prop} (H : DX4_emittedSignal_0 h x0 M Q) : E (h + 1) mdX4_emittedSignal [.ref x0] M Q := E.of (by decide) (Nat.le_of_ble_eq_true rfl) (fun _ _ _ => trivial) (VX4_emittedSignal_0 H)
def DX4_toldSignal_49 (h : Nat) (x1 : Int32) (M : Mem) (Q : Option Value → Mem → Prop) : Prop :=
  Q (some (.int x1)) M
set_option maxRecDepth 20000 in
set_option maxHeartbeats 2000000 in
theorem VX4_toldSignal_49 {h : Nat} {x1 : Int32} {M : Mem} {Q : Option Value → Mem → Prop} (H : DX4_toldSignal_49 h x1 M Q) : T (h + 1) mdX4_toldSignal 49 [(1, .int x1)] [] M Q := by
  unfold DX4_toldSignal_49 at H
  refine xt_iload_n (j := 0) dX4_toldSignal_49 rfl rfl ?_
  exact xt_ireturn dX4_toldSignal_50 rfl H
def DX4_toldSignal_0 (h : Nat) (x0 : Nat) (M : Mem) (Q : Option Value → Mem → Prop) : Prop :=
  ok M x0 6 ∧ ∃ b2 : Nat, mR M x0 0 = some b2 ∧ ok M b2 9 ∧ ((mI M b2 9) = 2 → ∃ b4 : Nat, mR M x0 7 = some b4 ∧ ∃ b5 : Nat, mR M x0 0 = some b5 ∧ ok M b5 9 ∧ ok M b4 3 ∧ E h mdX1_signalNamed [.ref b4, .long (mJ M b5 11)] M (fun r M8 => mE M M8 → ∃ r9 : Int32, r = some (.int r9) ∧ (¬ r9 = (-1) → DX4_toldSignal_49 h r9 M8 Q) ∧
  (r9 = (-1) → ∃ b10 : Nat, mR M8 x0 0 = some b10 ∧ ok M8 b10 9 ∧ E h mdX7_fail [.ref b10, .int 4] M8 (fun r M12 => mE M8 M12 → r = none ∧ DX4_toldSignal_49 h r9 M12 Q)))) ∧
  (¬ ((mI M b2 9) = 2) → ∃ b13 : Nat, mR M x0 0 = some b13 ∧ ok M b13 9 ∧ E h mdX7_fail [.ref b13, .int 2] M (fun r M15 => mE M M15 → r = none ∧ Q (some (.int (-1))) M15))
set_option maxRecDepth 20000 in
set_option maxHeartbeats 2000000 in
theorem VX4_toldSignal_0 {h : Nat} {x0 : Nat} {M : Mem} {Q : Option Value → Mem → Prop} (H : DX4_toldSignal_0 h x0 M Q) : T (h + 1) mdX4_toldSignal 0 [(0, .ref x0)] [] M Q := by
  unfold DX4_toldSignal_0 at H
  refine xt_aload_n (j := 0) dX4_toldSignal_0 rfl rfl ?_
  obtain ⟨ho1, H⟩ := H
  obtain ⟨b2, hb, H⟩ := H
  refine xt_getR dX4_toldSignal_1 (flX4_14 rfl) ft_6_0 ho1.1 ho1.2 hb ?_
  obtain ⟨ho3, H⟩ := H
  refine xt_getI dX4_toldSignal_4 (flX4_66 rfl) ft_9_9 ho3.1 ho3.2 ?_
  refine xt_iconst (v := 2) dX4_toldSignal_7 (by decide) ?_
  refine xt_icmp_eq (tgt := 21) dX4_toldSignal_8 (by decide) (fun hc => ?_) (fun hc => ?_)
  · have H := H.1 hc
    refine xt_aload_n (j := 0) dX4_toldSignal_21 rfl rfl ?_
    obtain ⟨b4, hb, H⟩ := H
    refine xt_getR dX4_toldSignal_22 (flX4_31 rfl) ft_6_7 ho1.1 ho1.2 hb ?_
    refine xt_aload_n (j := 0) dX4_toldSignal_25 rfl rfl ?_
    obtain ⟨b5, hb, H⟩ := H
    refine xt_getR dX4_toldSignal_26 (flX4_14 rfl) ft_6_0 ho1.1 ho1.2 hb ?_
    obtain ⟨ho6, H⟩ := H
    refine xt_getJ dX4_toldSignal_29 (flX4_126 rfl) ft_9_11 ho6.1 ho6.2 ?_
    obtain ⟨ho7, H⟩ := H
    refine xt_callV (h2 := h) (as := [.long (mJ M b5 11)]) (st := []) dX4_toldSignal_32 (mlX4_306 rfl) rfl ho7.1 ⟨by rw [ho7.2]; rfl, by rw [ho7.2]; decide⟩ (by first | decide | (simp [Value.category]; done)) (Nat.le_refl _) H (fun r M8 HH hE => ?_)
    obtain ⟨r9, hr, H⟩ := HH hE
    subst hr
    have ho1 := ok_E ho1 hE
    show T _ _ _ _ [.int r9] _ _
    refine xt_istore_n (lv' := [(1, .int r9), (0, .ref x0)]) dX4_toldSignal_35 rfl (by decide) rfl ?_
    refine xt_iload_n (j := 0) dX4_toldSignal_36 rfl rfl ?_
    refine xt_iconst (v := -1) dX4_toldSignal_37 (by decide) ?_
    refine xt_icmp_ne (tgt := 49) dX4_toldSignal_38 (by decide) (fun hc => ?_) (fun hc => ?_)
    · have H := H.1 hc
      exact xt_sub [0] rfl (VX4_toldSignal_49 H)
    · have H := H.2 hc
      refine xt_aload_n (j := 1) dX4_toldSignal_41 rfl rfl ?_
      obtain ⟨b10, hb, H⟩ := H
      refine xt_getR dX4_toldSignal_42 (flX4_14 rfl) ft_6_0 ho1.1 ho1.2 hb ?_
      refine xt_iconst (v := 4) dX4_toldSignal_45 (by decide) ?_
      obtain ⟨ho11, H⟩ := H
      refine xt_callV (h2 := h) (as := [.int 4]) (st := []) dX4_toldSignal_46 (mlX4_69 rfl) rfl ho11.1 ⟨by rw [ho11.2]; rfl, by rw [ho11.2]; decide⟩ (by first | decide | (simp [Value.category]; done)) (Nat.le_refl _) H (fun r M12 HH hE => ?_)
      obtain ⟨hr, H⟩ := HH hE
      subst hr
      have ho1 := ok_E ho1 hE
      show T _ _ _ _ [] _ _
      exact xt_sub [0] rfl (VX4_toldSignal_49 H)
  · have H := H.2 hc
    refine xt_aload_n (j := 0) dX4_toldSignal_11 rfl rfl ?_
    obtain ⟨b13, hb, H⟩ := H
    refine xt_getR dX4_toldSignal_12 (flX4_14 rfl) ft_6_0 ho1.1 ho1.2 hb ?_
    refine xt_iconst (v := 2) dX4_toldSignal_15 (by decide) ?_
    obtain ⟨ho14, H⟩ := H
    refine xt_callV (h2 := h) (as := [.int 2]) (st := []) dX4_toldSignal_16 (mlX4_69 rfl) rfl ho14.1 ⟨by rw [ho14.2]; rfl, by rw [ho14.2]; decide⟩ (by first | decide | (simp [Value.category]; done)) (Nat.le_refl _) H (fun r M15 HH hE => ?_)
    obtain ⟨hr, H⟩ := HH hE
    subst hr
    have ho1 := ok_E ho1 hE
    show T _ _ _ _ [] _ _
    refine xt_iconst (v := -1) dX4_toldSignal_19 (by decide) ?_
    exact xt_ireturn dX4_toldSignal_20 rfl H
theorem KX4_toldSignal {h : Nat} {x0 : Nat} {M : Mem} {Q : Option Value → Mem → Prop} (H : DX4_toldSignal_0 h x0 M Q) : E (h + 1) mdX4_toldSignal [.ref x0] M Q := E.of (by decide) (Nat.le_of_ble_eq_true rfl) (fun _ _ _ => trivial) (VX4_toldSignal_0 H)
def DX4_readExit_0 (h : Nat) (x0 : Nat) (M : Mem) (Q : Option Value → Mem → Prop) : Prop :=
  ok M x0 6 ∧ ∃ b2 : Nat, mR M x0 0 = some b2 ∧ ok M b2 9 ∧ ((mI M b2 9) = 2 → ∃ b4 : Nat, mR M x0 0 = some b4 ∧ ok M b4 9 ∧ E h mdX4_trapsWithin [.ref x0, .long (mJ M b4 11)] M (fun r M6 => mE M M6 → ∃ r7 : Int32, r = some (.int r7) ∧ (¬ r7 = (-1) → ∃ b8 : Nat, mR M6 x0 0 = some b8 ∧ ok M6 b8 9 ∧ E h mdX7_advance [.ref b8] M6 (fun r M10 => mE M6 M10 → r = none ∧ ∃ b11 : Nat, mR M10 x0 1 = some b11 ∧ ok M10 b11 10 ∧ E h mdX8_exit [.ref b11, .int r7] M10 (fun r M13 => mE M10 M13 → ∃ r14 : Int32, r = some (.int r14) ∧ Q (some (.int r14)) M13))) ∧
  (r7 = (-1) → ∃ b15 : Nat, mR M6 x0 0 = some b15 ∧ ok M6 b15 9 ∧ E h mdX7_fail [.ref b15, .int 4] M6 (fun r M17 => mE M6 M17 → r = none ∧ Q (some (.int 0)) M17)))) ∧
  (¬ ((mI M b2 9) = 2) → ∃ b18 : Nat, mR M x0 0 = some b18 ∧ ok M b18 9 ∧ E h mdX7_fail [.ref b18, .int 2] M (fun r M20 => mE M M20 → r = none ∧ Q (some (.int 0)) M20))
set_option maxRecDepth 20000 in
set_option maxHeartbeats 2000000 in
theorem VX4_readExit_0 {h : Nat} {x0 : Nat} {M : Mem} {Q : Option Value → Mem → Prop} (H : DX4_readExit_0 h x0 M Q) : T (h + 1) mdX4_readExit 0 [(0, .ref x0)] [] M Q := by
  unfold DX4_readExit_0 at H
  refine xt_aload_n (j := 0) dX4_readExit_0 rfl rfl ?_
  obtain ⟨ho1, H⟩ := H
  obtain ⟨b2, hb, H⟩ := H
  refine xt_getR dX4_readExit_1 (flX4_14 rfl) ft_6_0 ho1.1 ho1.2 hb ?_
  obtain ⟨ho3, H⟩ := H
  refine xt_getI dX4_readExit_4 (flX4_66 rfl) ft_9_9 ho3.1 ho3.2 ?_
  refine xt_iconst (v := 2) dX4_readExit_7 (by decide) ?_
  refine xt_icmp_eq (tgt := 21) dX4_readExit_8 (by decide) (fun hc => ?_) (fun hc => ?_)
  · have H := H.1 hc
    refine xt_aload_n (j := 0) dX4_readExit_21 rfl rfl ?_
    refine xt_aload_n (j := 0) dX4_readExit_22 rfl rfl ?_
    obtain ⟨b4, hb, H⟩ := H
    refine xt_getR dX4_readExit_23 (flX4_14 rfl) ft_6_0 ho1.1 ho1.2 hb ?_
    obtain ⟨ho5, H⟩ := H
    refine xt_getJ dX4_readExit_26 (flX4_126 rfl) ft_9_11 ho5.1 ho5.2 ?_
    refine xt_callV (h2 := h) (as := [.long (mJ M b4 11)]) (st := []) dX4_readExit_29 (mlX4_309 rfl) rfl ho1.1 ⟨by rw [ho1.2]; rfl, by rw [ho1.2]; decide⟩ (by first | decide | (simp [Value.category]; done)) (Nat.le_refl _) H (fun r M6 HH hE => ?_)
    obtain ⟨r7, hr, H⟩ := HH hE
    subst hr
    have ho1 := ok_E ho1 hE
    show T _ _ _ _ [.int r7] _ _
    refine xt_istore_n (lv' := [(1, .int r7), (0, .ref x0)]) dX4_readExit_32 rfl (by decide) rfl ?_
    refine xt_iload_n (j := 0) dX4_readExit_33 rfl rfl ?_
    refine xt_iconst (v := -1) dX4_readExit_34 (by decide) ?_
    refine xt_icmp_ne (tgt := 48) dX4_readExit_35 (by decide) (fun hc => ?_) (fun hc => ?_)
    · have H := H.1 hc
      refine xt_aload_n (j := 1) dX4_readExit_48 rfl rfl ?_
      obtain ⟨b8, hb, H⟩ := H
      refine xt_getR dX4_readExit_49 (flX4_14 rfl) ft_6_0 ho1.1 ho1.2 hb ?_
      obtain ⟨ho9, H⟩ := H
      refine xt_callV (h2 := h) (as := []) (st := []) dX4_readExit_52 (mlX4_117 rfl) rfl ho9.1 ⟨by rw [ho9.2]; rfl, by rw [ho9.2]; decide⟩ (by first | decide | (simp [Value.category]; done)) (Nat.le_refl _) H (fun r M10 HH hE => ?_)
      obtain ⟨hr, H⟩ := HH hE
      subst hr
      have ho1 := ok_E ho1 hE
      show T _ _ _ _ [] _ _
      refine xt_aload_n (j := 1) dX4_readExit_55 rfl rfl ?_
      obtain ⟨b11, hb, H⟩ := H
      refine xt_getR dX4_readExit_56 (flX4_20 rfl) ft_6_1 ho1.1 ho1.2 hb ?_
      refine xt_iload_n (j := 0) dX4_readExit_59 rfl rfl ?_
      obtain ⟨ho12, H⟩ := H
      refine xt_callV (h2 := h) (as := [.int r7]) (st := []) dX4_readExit_60 (mlX4_312 rfl) rfl ho12.1 ⟨by rw [ho12.2]; rfl, by rw [ho12.2]; decide⟩ (by first | decide | (simp [Value.category]; done)) (Nat.le_refl _) H (fun r M13 HH hE => ?_)
      obtain ⟨r14, hr, H⟩ := HH hE
      subst hr
      have ho1 := ok_E ho1 hE
      show T _ _ _ _ [.int r14] _ _
      exact xt_ireturn dX4_readExit_63 rfl H
    · have H := H.2 hc
      refine xt_aload_n (j := 1) dX4_readExit_38 rfl rfl ?_
      obtain ⟨b15, hb, H⟩ := H
      refine xt_getR dX4_readExit_39 (flX4_14 rfl) ft_6_0 ho1.1 ho1.2 hb ?_
      refine xt_iconst (v := 4) dX4_readExit_42 (by decide) ?_
      obtain ⟨ho16, H⟩ := H
      refine xt_callV (h2 := h) (as := [.int 4]) (st := []) dX4_readExit_43 (mlX4_69 rfl) rfl ho16.1 ⟨by rw [ho16.2]; rfl, by rw [ho16.2]; decide⟩ (by first | decide | (simp [Value.category]; done)) (Nat.le_refl _) H (fun r M17 HH hE => ?_)
      obtain ⟨hr, H⟩ := HH hE
      subst hr
      have ho1 := ok_E ho1 hE
      show T _ _ _ _ [] _ _
      refine xt_iconst (v := 0) dX4_readExit_46 (by decide) ?_
      exact xt_ireturn dX4_readExit_47 rfl H
  · have H := H.2 hc
    refine xt_aload_n (j := 0) dX4_readExit_11 rfl rfl ?_
    obtain ⟨b18, hb, H⟩ := H
    refine xt_getR dX4_readExit_12 (flX4_14 rfl) ft_6_0 ho1.1 ho1.2 hb ?_
    refine xt_iconst (v := 2) dX4_readExit_15 (by decide) ?_
    obtain ⟨ho19, H⟩ := H
    refine xt_callV (h2 := h) (as := [.int 2]) (st := []) dX4_readExit_16 (mlX4_69 rfl) rfl ho19.1 ⟨by rw [ho19.2]; rfl, by rw [ho19.2]; decide⟩ (by first | decide | (simp [Value.category]; done)) (Nat.le_refl _) H (fun r M20 HH hE => ?_)
    obtain ⟨hr, H⟩ := HH hE
    subst hr
    have ho1 := ok_E ho1 hE
    show T _ _ _ _ [] _ _
    refine xt_iconst (v := 0) dX4_readExit_19 (by decide) ?_
    exact xt_ireturn dX4_readExit_20 rfl H
theorem KX4_readExit {h : Nat} {x0 : Nat} {M : Mem} {Q : Option Value → Mem → Prop} (H : DX4_readExit_0 h x0 M Q) : E (h + 1) mdX4_readExit [.ref x0] M Q := E.of (by decide) (Nat.le_of_ble_eq_true rfl) (fun _ _ _ => trivial) (VX4_readExit_0 H)
def DX4_trapsWithin_2 (h : Nat) (x0 : Nat) (x1 : Int64) (x3 : Int32) (M : Mem) (Q : Option Value → Mem → Prop) : Prop :=
  ok M x0 6 ∧ ((mI M x0 3) ≤ x3 → Q (some (.int (-1))) M) ∧
  (¬ ((mI M x0 3) ≤ x3) → ∃ b2 : Nat, mR M x0 2 = some b2 ∧ ok M b2 23 ∧ vp_in (((mI M x0 3) - 1) - x3) (mL M b2) ∧ (¬ (lg_cmp (mAJ M b2 (((mI M x0 3) - 1) - x3 : Int32).toNatClampNeg) x1) = 0 → T (h + 1) mdX4_trapsWithin 2 [(0, .ref x0), (1, .long x1), (3, .int (x3 + 1))] [] M Q) ∧
  ((lg_cmp (mAJ M b2 (((mI M x0 3) - 1) - x3 : Int32).toNatClampNeg) x1) = 0 → Q (some (.int x3)) M))
set_option maxRecDepth 20000 in
set_option maxHeartbeats 2000000 in
theorem VX4_trapsWithin_2 {h : Nat} {x0 : Nat} {x1 : Int64} {x3 : Int32} {M : Mem} {Q : Option Value → Mem → Prop} (H : DX4_trapsWithin_2 h x0 x1 x3 M Q) : T (h + 1) mdX4_trapsWithin 2 [(0, .ref x0), (1, .long x1), (3, .int x3)] [] M Q := by
  unfold DX4_trapsWithin_2 at H
  refine xt_iload_n (j := 2) dX4_trapsWithin_2 rfl rfl ?_
  refine xt_aload_n (j := 0) dX4_trapsWithin_3 rfl rfl ?_
  obtain ⟨ho1, H⟩ := H
  refine xt_getI dX4_trapsWithin_4 (flX4_35 rfl) ft_6_3 ho1.1 ho1.2 ?_
  refine xt_icmp_ge (tgt := 36) dX4_trapsWithin_7 (by decide) (fun hc => ?_) (fun hc => ?_)
  · have H := H.1 hc
    refine xt_iconst (v := -1) dX4_trapsWithin_36 (by decide) ?_
    exact xt_ireturn dX4_trapsWithin_37 rfl H
  · have H := H.2 hc
    refine xt_aload_n (j := 0) dX4_trapsWithin_10 rfl rfl ?_
    obtain ⟨b2, hb, H⟩ := H
    refine xt_getR dX4_trapsWithin_11 (flX4_24 rfl) ft_6_2 ho1.1 ho1.2 hb ?_
    refine xt_aload_n (j := 0) dX4_trapsWithin_14 rfl rfl ?_
    refine xt_getI dX4_trapsWithin_15 (flX4_35 rfl) ft_6_3 ho1.1 ho1.2 ?_
    refine xt_iconst (v := 1) dX4_trapsWithin_18 (by decide) ?_
    refine xt_isub dX4_trapsWithin_19 ?_
    refine xt_iload_n (j := 2) dX4_trapsWithin_20 rfl rfl ?_
    refine xt_isub dX4_trapsWithin_21 ?_
    obtain ⟨ho3, H⟩ := H
    obtain ⟨hi, H⟩ := H
    refine xt_lald dX4_trapsWithin_22 ho3.1 ho3.2 hi ?_
    refine xt_lload_n (j := 1) dX4_trapsWithin_23 rfl rfl ?_
    refine xt_lcmp dX4_trapsWithin_24 ?_
    refine xt_if_ne (tgt := 30) dX4_trapsWithin_25 (by decide) (fun hc => ?_) (fun hc => ?_)
    · have H := H.1 hc
      refine xt_iinc (j := 2) (v := x3 + 1) (lv' := [(3, .int (x3 + 1)), (0, .ref x0), (1, .long x1)]) dX4_trapsWithin_30 rfl (by rfl) (by decide) rfl ?_
      refine xt_goto (tgt := 2) dX4_trapsWithin_33 (by decide) ?_
      exact xt_sub (lv' := [(0, .ref x0), (1, .long x1), (3, .int (x3 + 1))]) [1, 2, 0] rfl H
    · have H := H.2 hc
      refine xt_iload_n (j := 2) dX4_trapsWithin_28 rfl rfl ?_
      exact xt_ireturn dX4_trapsWithin_29 rfl H
def DX4_trapsWithin_0 (h : Nat) (x0 : Nat) (x1 : Int64) (M : Mem) (Q : Option Value → Mem → Prop) : Prop :=
  T (h + 1) mdX4_trapsWithin 2 [(0, .ref x0), (1, .long x1), (3, .int 0)] [] M Q
set_option maxRecDepth 20000 in
set_option maxHeartbeats 2000000 in
theorem VX4_trapsWithin_0 {h : Nat} {x0 : Nat} {x1 : Int64} {M : Mem} {Q : Option Value → Mem → Prop} (H : DX4_trapsWithin_0 h x0 x1 M Q) : T (h + 1) mdX4_trapsWithin 0 [(0, .ref x0), (1, .long x1)] [] M Q := by
  unfold DX4_trapsWithin_0 at H
  refine xt_iconst (v := 0) dX4_trapsWithin_0 (by decide) ?_
  refine xt_istore_n (lv' := [(3, .int 0), (0, .ref x0), (1, .long x1)]) dX4_trapsWithin_1 rfl (by decide) rfl ?_
  exact xt_sub (lv' := [(0, .ref x0), (1, .long x1), (3, .int 0)]) [1, 2, 0] rfl H
theorem KX4_trapsWithin {h : Nat} {x0 : Nat} {x1 : Int64} {M : Mem} {Q : Option Value → Mem → Prop} (H : DX4_trapsWithin_0 h x0 x1 M Q) : E (h + 1) mdX4_trapsWithin [.ref x0, .long x1] M Q := E.of (by decide) (Nat.le_of_ble_eq_true rfl) (fun _ _ _ => trivial) (VX4_trapsWithin_0 H)
def DX4_readAssign_0 (h : Nat) (x0 : Nat) (x1 : Nat) (x2 : Int64) (M : Mem) (Q : Option Value → Mem → Prop) : Prop :=
  ok M x0 6 ∧ ∃ b2 : Nat, mR M x0 7 = some b2 ∧ ok M b2 3 ∧ E h mdX1_variableNamed [.ref b2, .long x2] M (fun r M4 => mE M M4 → ∃ r5 : Int32, r = some (.int r5) ∧ ok M4 x1 5 ∧ ∀ M7 : Mem, M7 = wI M4 x1 3 2 →
  ∀ M8 : Mem, M8 = wI M7 x1 4 r5 →
  ∀ M9 : Mem, M9 = wI M8 x0 5 ((mI M8 x0 5) ||| ((1 : Int32) <<< (r5 &&& 31))) →
  ∃ b10 : Nat, mR M9 x0 0 = some b10 ∧ ok M9 b10 9 ∧ E h mdX7_expect [.ref b10, .int 5] M9 (fun r M12 => mE M9 M12 → r = none ∧ ∃ b13 : Nat, mR M12 x0 7 = some b13 ∧ ok M12 b13 3 ∧ ∃ b15 : Nat, mR M12 b13 8 = some b15 ∧ ok M12 b15 8 ∧ ∀ M17 : Mem, M17 = wI M12 x1 5 (mI M12 b15 1) →
  E h mdX4_readSum [.ref x0] M17 (fun r M18 => mE M17 M18 → r = none ∧ ∃ b19 : Nat, mR M18 x0 7 = some b19 ∧ ok M18 b19 3 ∧ ∃ b21 : Nat, mR M18 b19 8 = some b21 ∧ ok M18 b21 8 ∧ E h mdX6_add [.ref b21, .int 0] M18 (fun r M23 => mE M18 M23 → r = none ∧ ∃ b24 : Nat, mR M23 x0 1 = some b24 ∧ ok M23 b24 10 ∧ E h mdX8_make [.ref b24, .int 0] M23 (fun r M26 => mE M23 M26 → ∃ r27 : Int32, r = some (.int r27) ∧ Q (some (.int r27)) M26)))))
set_option maxRecDepth 20000 in
set_option maxHeartbeats 2000000 in
theorem VX4_readAssign_0 {h : Nat} {x0 : Nat} {x1 : Nat} {x2 : Int64} {M : Mem} {Q : Option Value → Mem → Prop} (H : DX4_readAssign_0 h x0 x1 x2 M Q) : T (h + 1) mdX4_readAssign 0 [(0, .ref x0), (1, .ref x1), (2, .long x2)] [] M Q := by
  unfold DX4_readAssign_0 at H
  refine xt_aload_n (j := 0) dX4_readAssign_0 rfl rfl ?_
  obtain ⟨ho1, H⟩ := H
  obtain ⟨b2, hb, H⟩ := H
  refine xt_getR dX4_readAssign_1 (flX4_31 rfl) ft_6_7 ho1.1 ho1.2 hb ?_
  refine xt_lload_n (j := 2) dX4_readAssign_4 rfl rfl ?_
  obtain ⟨ho3, H⟩ := H
  refine xt_callV (h2 := h) (as := [.long x2]) (st := []) dX4_readAssign_5 (mlX4_210 rfl) rfl ho3.1 ⟨by rw [ho3.2]; rfl, by rw [ho3.2]; decide⟩ (by first | decide | (simp [Value.category]; done)) (Nat.le_refl _) H (fun r M4 HH hE => ?_)
  obtain ⟨r5, hr, H⟩ := HH hE
  subst hr
  have ho1 := ok_E ho1 hE
  show T _ _ _ _ [.int r5] _ _
  refine xt_istore (lv' := [(4, .int r5), (0, .ref x0), (1, .ref x1), (2, .long x2)]) dX4_readAssign_8 (by decide) rfl ?_
  refine xt_aload_n (j := 2) dX4_readAssign_10 rfl rfl ?_
  refine xt_iconst (v := 2) dX4_readAssign_11 (by decide) ?_
  obtain ⟨ho6, H⟩ := H
  obtain ⟨M7, eM7⟩ : ∃ z, z = wI M4 x1 3 2 := ⟨_, rfl⟩
  have H := H _ eM7
  refine xt_putI dX4_readAssign_12 (flX4_271 rfl) ty_5_3 rfl ho6.1 ho6.2 ?_
  have ho1 : ok M7 x0 6 := by rw [eM7]; exact ho1
  have ho6 : ok M7 x1 5 := by rw [eM7]; exact ho6
  rw [← eM7]
  refine xt_aload_n (j := 2) dX4_readAssign_15 rfl rfl ?_
  refine xt_iload (j := 0) dX4_readAssign_16 rfl ?_
  obtain ⟨M8, eM8⟩ : ∃ z, z = wI M7 x1 4 r5 := ⟨_, rfl⟩
  have H := H _ eM8
  refine xt_putI dX4_readAssign_18 (flX4_274 rfl) ty_5_4 rfl ho6.1 ho6.2 ?_
  have ho1 : ok M8 x0 6 := by rw [eM8]; exact ho1
  have ho6 : ok M8 x1 5 := by rw [eM8]; exact ho6
  rw [← eM8]
  refine xt_aload_n (j := 1) dX4_readAssign_21 rfl rfl ?_
  refine xt_dup dX4_readAssign_22 rfl ?_
  refine xt_getI dX4_readAssign_23 (flX4_42 rfl) ft_6_5 ho1.1 ho1.2 ?_
  refine xt_iconst (v := 1) dX4_readAssign_26 (by decide) ?_
  refine xt_iload (j := 0) dX4_readAssign_27 rfl ?_
  refine xt_ishl dX4_readAssign_29 ?_
  refine xt_ior dX4_readAssign_30 ?_
  obtain ⟨M9, eM9⟩ : ∃ z, z = wI M8 x0 5 ((mI M8 x0 5) ||| ((1 : Int32) <<< (r5 &&& 31))) := ⟨_, rfl⟩
  have H := H _ eM9
  refine xt_putI dX4_readAssign_31 (flX4_42 rfl) ty_6_5 rfl ho1.1 ho1.2 ?_
  have ho1 : ok M9 x0 6 := by rw [eM9]; exact ho1
  have ho6 : ok M9 x1 5 := by rw [eM9]; exact ho6
  rw [← eM9]
  refine xt_aload_n (j := 1) dX4_readAssign_34 rfl rfl ?_
  obtain ⟨b10, hb, H⟩ := H
  refine xt_getR dX4_readAssign_35 (flX4_14 rfl) ft_6_0 ho1.1 ho1.2 hb ?_
  refine xt_iconst (v := 5) dX4_readAssign_38 (by decide) ?_
  obtain ⟨ho11, H⟩ := H
  refine xt_callV (h2 := h) (as := [.int 5]) (st := []) dX4_readAssign_39 (mlX4_114 rfl) rfl ho11.1 ⟨by rw [ho11.2]; rfl, by rw [ho11.2]; decide⟩ (by first | decide | (simp [Value.category]; done)) (Nat.le_refl _) H (fun r M12 HH hE => ?_)
  obtain ⟨hr, H⟩ := HH hE
  subst hr
  have ho1 := ok_E ho1 hE
  have ho6 := ok_E ho6 hE
  show T _ _ _ _ [] _ _
  refine xt_aload_n (j := 2) dX4_readAssign_42 rfl rfl ?_
  refine xt_aload_n (j := 1) dX4_readAssign_43 rfl rfl ?_
  obtain ⟨b13, hb, H⟩ := H
  refine xt_getR dX4_readAssign_44 (flX4_31 rfl) ft_6_7 ho1.1 ho1.2 hb ?_
  obtain ⟨ho14, H⟩ := H
  obtain ⟨b15, hb, H⟩ := H
  refine xt_getR dX4_readAssign_47 (flX4_277 rfl) ft_3_8 ho14.1 ho14.2 hb ?_
  obtain ⟨ho16, H⟩ := H
  refine xt_getI dX4_readAssign_50 (flX4_281 rfl) ft_8_1 ho16.1 ho16.2 ?_
  obtain ⟨M17, eM17⟩ : ∃ z, z = wI M12 x1 5 (mI M12 b15 1) := ⟨_, rfl⟩
  have H := H _ eM17
  refine xt_putI dX4_readAssign_53 (flX4_286 rfl) ty_5_5 rfl ho6.1 ho6.2 ?_
  have ho1 : ok M17 x0 6 := by rw [eM17]; exact ho1
  have ho6 : ok M17 x1 5 := by rw [eM17]; exact ho6
  rw [← eM17]
  refine xt_aload_n (j := 1) dX4_readAssign_56 rfl rfl ?_
  refine xt_callV (h2 := h) (as := []) (st := []) dX4_readAssign_57 (mlX4_315 rfl) rfl ho1.1 ⟨by rw [ho1.2]; rfl, by rw [ho1.2]; decide⟩ (by first | decide | (simp [Value.category]; done)) (Nat.le_refl _) H (fun r M18 HH hE => ?_)
  obtain ⟨hr, H⟩ := HH hE
  subst hr
  have ho1 := ok_E ho1 hE
  have ho6 := ok_E ho6 hE
  show T _ _ _ _ [] _ _
  refine xt_aload_n (j := 1) dX4_readAssign_60 rfl rfl ?_
  obtain ⟨b19, hb, H⟩ := H
  refine xt_getR dX4_readAssign_61 (flX4_31 rfl) ft_6_7 ho1.1 ho1.2 hb ?_
  obtain ⟨ho20, H⟩ := H
  obtain ⟨b21, hb, H⟩ := H
  refine xt_getR dX4_readAssign_64 (flX4_277 rfl) ft_3_8 ho20.1 ho20.2 hb ?_
  refine xt_iconst (v := 0) dX4_readAssign_67 (by decide) ?_
  obtain ⟨ho22, H⟩ := H
  refine xt_callV (h2 := h) (as := [.int 0]) (st := []) dX4_readAssign_68 (mlX4_292 rfl) rfl ho22.1 ⟨by rw [ho22.2]; rfl, by rw [ho22.2]; decide⟩ (by first | decide | (simp [Value.category]; done)) (Nat.le_refl _) H (fun r M23 HH hE => ?_)
  obtain ⟨hr, H⟩ := HH hE
  subst hr
  have ho1 := ok_E ho1 hE
  have ho6 := ok_E ho6 hE
  show T _ _ _ _ [] _ _
  refine xt_aload_n (j := 1) dX4_readAssign_71 rfl rfl ?_
  obtain ⟨b24, hb, H⟩ := H
  refine xt_getR dX4_readAssign_72 (flX4_20 rfl) ft_6_1 ho1.1 ho1.2 hb ?_
  refine xt_iconst (v := 0) dX4_readAssign_75 (by decide) ?_
  obtain ⟨ho25, H⟩ := H
  refine xt_callV (h2 := h) (as := [.int 0]) (st := []) dX4_readAssign_76 (mlX4_159 rfl) rfl ho25.1 ⟨by rw [ho25.2]; rfl, by rw [ho25.2]; decide⟩ (by first | decide | (simp [Value.category]; done)) (Nat.le_refl _) H (fun r M26 HH hE => ?_)
  obtain ⟨r27, hr, H⟩ := HH hE
  subst hr
  have ho1 := ok_E ho1 hE
  have ho6 := ok_E ho6 hE
  show T _ _ _ _ [.int r27] _ _
  exact xt_ireturn dX4_readAssign_79 rfl H
theorem KX4_readAssign {h : Nat} {x0 : Nat} {x1 : Nat} {x2 : Int64} {M : Mem} {Q : Option Value → Mem → Prop} (H : DX4_readAssign_0 h x0 x1 x2 M Q) : E (h + 1) mdX4_readAssign [.ref x0, .ref x1, .long x2] M Q := E.of (by decide) (Nat.le_of_ble_eq_true rfl) (fun _ _ _ => trivial) (VX4_readAssign_0 H)
def DX4_readLoop_23 (h : Nat) (x0 : Nat) (x3 : Int32) (M : Mem) (Q : Option Value → Mem → Prop) : Prop :=
  ok M x0 6 ∧ ∃ b2 : Nat, mR M x0 0 = some b2 ∧ ok M b2 9 ∧ E h mdX7_expect [.ref b2, .int 43] M (fun r M4 => mE M M4 → r = none ∧ ∃ b5 : Nat, mR M4 x0 1 = some b5 ∧ ok M4 b5 10 ∧ E h mdX8_wrap [.ref b5, .int 6, .int x3] M4 (fun r M7 => mE M4 M7 → ∃ r8 : Int32, r = some (.int r8) ∧ Q (some (.int r8)) M7))
set_option maxRecDepth 20000 in
set_option maxHeartbeats 2000000 in
theorem VX4_readLoop_23 {h : Nat} {x0 : Nat} {x3 : Int32} {M : Mem} {Q : Option Value → Mem → Prop} (H : DX4_readLoop_23 h x0 x3 M Q) : T (h + 1) mdX4_readLoop 23 [(0, .ref x0), (3, .int x3)] [] M Q := by
  unfold DX4_readLoop_23 at H
  refine xt_aload_n (j := 0) dX4_readLoop_23 rfl rfl ?_
  obtain ⟨ho1, H⟩ := H
  obtain ⟨b2, hb, H⟩ := H
  refine xt_getR dX4_readLoop_24 (flX4_14 rfl) ft_6_0 ho1.1 ho1.2 hb ?_
  refine xt_bipush (v := 43) dX4_readLoop_27 (by decide) ?_
  obtain ⟨ho3, H⟩ := H
  refine xt_callV (h2 := h) (as := [.int 43]) (st := []) dX4_readLoop_29 (mlX4_114 rfl) rfl ho3.1 ⟨by rw [ho3.2]; rfl, by rw [ho3.2]; decide⟩ (by first | decide | (simp [Value.category]; done)) (Nat.le_refl _) H (fun r M4 HH hE => ?_)
  obtain ⟨hr, H⟩ := HH hE
  subst hr
  have ho1 := ok_E ho1 hE
  show T _ _ _ _ [] _ _
  refine xt_aload_n (j := 0) dX4_readLoop_32 rfl rfl ?_
  obtain ⟨b5, hb, H⟩ := H
  refine xt_getR dX4_readLoop_33 (flX4_20 rfl) ft_6_1 ho1.1 ho1.2 hb ?_
  refine xt_bipush (v := 6) dX4_readLoop_36 (by decide) ?_
  refine xt_iload_n (j := 1) dX4_readLoop_38 rfl rfl ?_
  obtain ⟨ho6, H⟩ := H
  refine xt_callV (h2 := h) (as := [.int 6, .int x3]) (st := []) dX4_readLoop_39 (mlX4_321 rfl) rfl ho6.1 ⟨by rw [ho6.2]; rfl, by rw [ho6.2]; decide⟩ (by first | decide | (simp [Value.category]; done)) (Nat.le_refl _) H (fun r M7 HH hE => ?_)
  obtain ⟨r8, hr, H⟩ := HH hE
  subst hr
  have ho1 := ok_E ho1 hE
  show T _ _ _ _ [.int r8] _ _
  exact xt_ireturn dX4_readLoop_42 rfl H
def DX4_readLoop_0 (h : Nat) (x0 : Nat) (x1 : Nat) (x2 : Int32) (M : Mem) (Q : Option Value → Mem → Prop) : Prop :=
  ok M x0 6 ∧ E h mdX4_readSeq [.ref x0, .int x2] M (fun r M2 => mE M M2 → ∃ r3 : Int32, r = some (.int r3) ∧ ∃ b4 : Nat, mR M2 x0 1 = some b4 ∧ ok M2 b4 10 ∧ E h mdX8_canEndAtOnce [.ref b4, .int r3] M2 (fun r M6 => mE M2 M6 → ∃ r7 : Int32, r = some (.int r7) ∧ (r7 = 0 → DX4_readLoop_23 h x0 r3 M6 Q) ∧
  (¬ (r7 = 0) → ok M6 x1 5 ∧ ∀ M9 : Mem, M9 = wI M6 x1 2 7 →
  DX4_readLoop_23 h x0 r3 M9 Q)))
set_option maxRecDepth 20000 in
set_option maxHeartbeats 2000000 in
theorem VX4_readLoop_0 {h : Nat} {x0 : Nat} {x1 : Nat} {x2 : Int32} {M : Mem} {Q : Option Value → Mem → Prop} (H : DX4_readLoop_0 h x0 x1 x2 M Q) : T (h + 1) mdX4_readLoop 0 [(0, .ref x0), (1, .ref x1), (2, .int x2)] [] M Q := by
  unfold DX4_readLoop_0 at H
  refine xt_aload_n (j := 0) dX4_readLoop_0 rfl rfl ?_
  refine xt_iload_n (j := 2) dX4_readLoop_1 rfl rfl ?_
  obtain ⟨ho1, H⟩ := H
  refine xt_callV (h2 := h) (as := [.int x2]) (st := []) dX4_readLoop_2 (mlX4_59 rfl) rfl ho1.1 ⟨by rw [ho1.2]; rfl, by rw [ho1.2]; decide⟩ (by first | decide | (simp [Value.category]; done)) (Nat.le_refl _) H (fun r M2 HH hE => ?_)
  obtain ⟨r3, hr, H⟩ := HH hE
  subst hr
  have ho1 := ok_E ho1 hE
  show T _ _ _ _ [.int r3] _ _
  refine xt_istore_n (lv' := [(3, .int r3), (0, .ref x0), (1, .ref x1), (2, .int x2)]) dX4_readLoop_5 rfl (by decide) rfl ?_
  refine xt_aload_n (j := 1) dX4_readLoop_6 rfl rfl ?_
  obtain ⟨b4, hb, H⟩ := H
  refine xt_getR dX4_readLoop_7 (flX4_20 rfl) ft_6_1 ho1.1 ho1.2 hb ?_
  refine xt_iload_n (j := 0) dX4_readLoop_10 rfl rfl ?_
  obtain ⟨ho5, H⟩ := H
  refine xt_callV (h2 := h) (as := [.int r3]) (st := []) dX4_readLoop_11 (mlX4_318 rfl) rfl ho5.1 ⟨by rw [ho5.2]; rfl, by rw [ho5.2]; decide⟩ (by first | decide | (simp [Value.category]; done)) (Nat.le_refl _) H (fun r M6 HH hE => ?_)
  obtain ⟨r7, hr, H⟩ := HH hE
  subst hr
  have ho1 := ok_E ho1 hE
  show T _ _ _ _ [.int r7] _ _
  refine xt_if_eq (tgt := 23) dX4_readLoop_14 (by decide) (fun hc => ?_) (fun hc => ?_)
  · have H := H.1 hc
    exact xt_sub [1, 0] rfl (VX4_readLoop_23 H)
  · have H := H.2 hc
    refine xt_aload_n (j := 2) dX4_readLoop_17 rfl rfl ?_
    refine xt_bipush (v := 7) dX4_readLoop_18 (by decide) ?_
    obtain ⟨ho8, H⟩ := H
    obtain ⟨M9, eM9⟩ : ∃ z, z = wI M6 x1 2 7 := ⟨_, rfl⟩
    have H := H _ eM9
    refine xt_putI dX4_readLoop_20 (flX4_98 rfl) ty_5_2 rfl ho8.1 ho8.2 ?_
    have ho1 : ok M9 x0 6 := by rw [eM9]; exact ho1
    have ho8 : ok M9 x1 5 := by rw [eM9]; exact ho8
    rw [← eM9]
    exact xt_sub [1, 0] rfl (VX4_readLoop_23 H)
theorem KX4_readLoop {h : Nat} {x0 : Nat} {x1 : Nat} {x2 : Int32} {M : Mem} {Q : Option Value → Mem → Prop} (H : DX4_readLoop_0 h x0 x1 x2 M Q) : E (h + 1) mdX4_readLoop [.ref x0, .ref x1, .int x2] M Q := E.of (by decide) (Nat.le_of_ble_eq_true rfl) (fun _ _ _ => trivial) (VX4_readLoop_0 H)
def DX4_readChoice_43 (h : Nat) (x0 : Nat) (x1 : Int32) (x3 : Int32) (s0 : Int32) (M : Mem) (Q : Option Value → Mem → Prop) : Prop :=
  ok M x0 6 ∧ ∃ b2 : Nat, mR M x0 0 = some b2 ∧ ok M b2 9 ∧ E h mdX7_expect [.ref b2, .int 43] M (fun r M4 => mE M M4 → r = none ∧ ∃ b5 : Nat, mR M4 x0 1 = some b5 ∧ ok M4 b5 10 ∧ E h mdX8_choice [.ref b5, .int x1, .int x3, .int s0] M4 (fun r M7 => mE M4 M7 → ∃ r8 : Int32, r = some (.int r8) ∧ Q (some (.int r8)) M7))
set_option maxRecDepth 20000 in
set_option maxHeartbeats 2000000 in
theorem VX4_readChoice_43 {h : Nat} {x0 : Nat} {x1 : Int32} {x3 : Int32} {s0 : Int32} {M : Mem} {Q : Option Value → Mem → Prop} (H : DX4_readChoice_43 h x0 x1 x3 s0 M Q) : T (h + 1) mdX4_readChoice 43 [(0, .ref x0), (1, .int x1), (3, .int x3)] [.int s0] M Q := by
  unfold DX4_readChoice_43 at H
  refine xt_istore (lv' := [(4, .int s0), (0, .ref x0), (1, .int x1), (3, .int x3)]) dX4_readChoice_43 (by decide) rfl ?_
  refine xt_aload_n (j := 1) dX4_readChoice_45 rfl rfl ?_
  obtain ⟨ho1, H⟩ := H
  obtain ⟨b2, hb, H⟩ := H
  refine xt_getR dX4_readChoice_46 (flX4_14 rfl) ft_6_0 ho1.1 ho1.2 hb ?_
  refine xt_bipush (v := 43) dX4_readChoice_49 (by decide) ?_
  obtain ⟨ho3, H⟩ := H
  refine xt_callV (h2 := h) (as := [.int 43]) (st := []) dX4_readChoice_51 (mlX4_114 rfl) rfl ho3.1 ⟨by rw [ho3.2]; rfl, by rw [ho3.2]; decide⟩ (by first | decide | (simp [Value.category]; done)) (Nat.le_refl _) H (fun r M4 HH hE => ?_)
  obtain ⟨hr, H⟩ := HH hE
  subst hr
  have ho1 := ok_E ho1 hE
  show T _ _ _ _ [] _ _
  refine xt_aload_n (j := 1) dX4_readChoice_54 rfl rfl ?_
  obtain ⟨b5, hb, H⟩ := H
  refine xt_getR dX4_readChoice_55 (flX4_20 rfl) ft_6_1 ho1.1 ho1.2 hb ?_
  refine xt_iload_n (j := 2) dX4_readChoice_58 rfl rfl ?_
  refine xt_iload_n (j := 3) dX4_readChoice_59 rfl rfl ?_
  refine xt_iload (j := 0) dX4_readChoice_60 rfl ?_
  obtain ⟨ho6, H⟩ := H
  refine xt_callV (h2 := h) (as := [.int x1, .int x3, .int s0]) (st := []) dX4_readChoice_62 (mlX4_324 rfl) rfl ho6.1 ⟨by rw [ho6.2]; rfl, by rw [ho6.2]; decide⟩ (by first | decide | (simp [Value.category]; done)) (Nat.le_refl _) H (fun r M7 HH hE => ?_)
  obtain ⟨r8, hr, H⟩ := HH hE
  subst hr
  have ho1 := ok_E ho1 hE
  show T _ _ _ _ [.int r8] _ _
  exact xt_ireturn dX4_readChoice_65 rfl H
def DX4_readChoice_0 (h : Nat) (x0 : Nat) (x1 : Int32) (x2 : Int32) (M : Mem) (Q : Option Value → Mem → Prop) : Prop :=
  ok M x0 6 ∧ ∃ b2 : Nat, mR M x0 0 = some b2 ∧ ok M b2 9 ∧ E h mdX7_expect [.ref b2, .int 45] M (fun r M4 => mE M M4 → r = none ∧ E h mdX4_readSeq [.ref x0, .int x2] M4 (fun r M5 => mE M4 M5 → ∃ r6 : Int32, r = some (.int r6) ∧ ∃ b7 : Nat, mR M5 x0 0 = some b7 ∧ ok M5 b7 9 ∧ E h mdX7_accept [.ref b7, .int 46] M5 (fun r M9 => mE M5 M9 → ∃ r10 : Int32, r = some (.int r10) ∧ (r10 = 0 → ∃ b11 : Nat, mR M9 x0 1 = some b11 ∧ ok M9 b11 10 ∧ E h mdX8_make [.ref b11, .int 0] M9 (fun r M13 => mE M9 M13 → ∃ r14 : Int32, r = some (.int r14) ∧ DX4_readChoice_43 h x0 x1 r6 r14 M13 Q)) ∧
  (¬ (r10 = 0) → E h mdX4_readSeq [.ref x0, .int x2] M9 (fun r M15 => mE M9 M15 → ∃ r16 : Int32, r = some (.int r16) ∧ DX4_readChoice_43 h x0 x1 r6 r16 M15 Q)))))
set_option maxRecDepth 20000 in
set_option maxHeartbeats 2000000 in
theorem VX4_readChoice_0 {h : Nat} {x0 : Nat} {x1 : Int32} {x2 : Int32} {M : Mem} {Q : Option Value → Mem → Prop} (H : DX4_readChoice_0 h x0 x1 x2 M Q) : T (h + 1) mdX4_readChoice 0 [(0, .ref x0), (1, .int x1), (2, .int x2)] [] M Q := by
  unfold DX4_readChoice_0 at H
  refine xt_aload_n (j := 0) dX4_readChoice_0 rfl rfl ?_
  obtain ⟨ho1, H⟩ := H
  obtain ⟨b2, hb, H⟩ := H
  refine xt_getR dX4_readChoice_1 (flX4_14 rfl) ft_6_0 ho1.1 ho1.2 hb ?_
  refine xt_bipush (v := 45) dX4_readChoice_4 (by decide) ?_
  obtain ⟨ho3, H⟩ := H
  refine xt_callV (h2 := h) (as := [.int 45]) (st := []) dX4_readChoice_6 (mlX4_114 rfl) rfl ho3.1 ⟨by rw [ho3.2]; rfl, by rw [ho3.2]; decide⟩ (by first | decide | (simp [Value.category]; done)) (Nat.le_refl _) H (fun r M4 HH hE => ?_)
  obtain ⟨hr, H⟩ := HH hE
  subst hr
  have ho1 := ok_E ho1 hE
  show T _ _ _ _ [] _ _
  refine xt_aload_n (j := 0) dX4_readChoice_9 rfl rfl ?_
  refine xt_iload_n (j := 2) dX4_readChoice_10 rfl rfl ?_
  refine xt_callV (h2 := h) (as := [.int x2]) (st := []) dX4_readChoice_11 (mlX4_59 rfl) rfl ho1.1 ⟨by rw [ho1.2]; rfl, by rw [ho1.2]; decide⟩ (by first | decide | (simp [Value.category]; done)) (Nat.le_refl _) H (fun r M5 HH hE => ?_)
  obtain ⟨r6, hr, H⟩ := HH hE
  subst hr
  have ho1 := ok_E ho1 hE
  show T _ _ _ _ [.int r6] _ _
  refine xt_istore_n (lv' := [(3, .int r6), (0, .ref x0), (1, .int x1), (2, .int x2)]) dX4_readChoice_14 rfl (by decide) rfl ?_
  refine xt_aload_n (j := 1) dX4_readChoice_15 rfl rfl ?_
  obtain ⟨b7, hb, H⟩ := H
  refine xt_getR dX4_readChoice_16 (flX4_14 rfl) ft_6_0 ho1.1 ho1.2 hb ?_
  refine xt_bipush (v := 46) dX4_readChoice_19 (by decide) ?_
  obtain ⟨ho8, H⟩ := H
  refine xt_callV (h2 := h) (as := [.int 46]) (st := []) dX4_readChoice_21 (mlX4_134 rfl) rfl ho8.1 ⟨by rw [ho8.2]; rfl, by rw [ho8.2]; decide⟩ (by first | decide | (simp [Value.category]; done)) (Nat.le_refl _) H (fun r M9 HH hE => ?_)
  obtain ⟨r10, hr, H⟩ := HH hE
  subst hr
  have ho1 := ok_E ho1 hE
  show T _ _ _ _ [.int r10] _ _
  refine xt_if_eq (tgt := 35) dX4_readChoice_24 (by decide) (fun hc => ?_) (fun hc => ?_)
  · have H := H.1 hc
    refine xt_aload_n (j := 1) dX4_readChoice_35 rfl rfl ?_
    obtain ⟨b11, hb, H⟩ := H
    refine xt_getR dX4_readChoice_36 (flX4_20 rfl) ft_6_1 ho1.1 ho1.2 hb ?_
    refine xt_iconst (v := 0) dX4_readChoice_39 (by decide) ?_
    obtain ⟨ho12, H⟩ := H
    refine xt_callV (h2 := h) (as := [.int 0]) (st := []) dX4_readChoice_40 (mlX4_159 rfl) rfl ho12.1 ⟨by rw [ho12.2]; rfl, by rw [ho12.2]; decide⟩ (by first | decide | (simp [Value.category]; done)) (Nat.le_refl _) H (fun r M13 HH hE => ?_)
    obtain ⟨r14, hr, H⟩ := HH hE
    subst hr
    have ho1 := ok_E ho1 hE
    show T _ _ _ _ [.int r14] _ _
    exact xt_sub [1, 2, 0] rfl (VX4_readChoice_43 H)
  · have H := H.2 hc
    refine xt_aload_n (j := 1) dX4_readChoice_27 rfl rfl ?_
    refine xt_iload_n (j := 3) dX4_readChoice_28 rfl rfl ?_
    refine xt_callV (h2 := h) (as := [.int x2]) (st := []) dX4_readChoice_29 (mlX4_59 rfl) rfl ho1.1 ⟨by rw [ho1.2]; rfl, by rw [ho1.2]; decide⟩ (by first | decide | (simp [Value.category]; done)) (Nat.le_refl _) H (fun r M15 HH hE => ?_)
    obtain ⟨r16, hr, H⟩ := HH hE
    subst hr
    have ho1 := ok_E ho1 hE
    show T _ _ _ _ [.int r16] _ _
    refine xt_goto (tgt := 43) dX4_readChoice_32 (by decide) ?_
    exact xt_sub [1, 2, 0] rfl (VX4_readChoice_43 H)
theorem KX4_readChoice {h : Nat} {x0 : Nat} {x1 : Int32} {x2 : Int32} {M : Mem} {Q : Option Value → Mem → Prop} (H : DX4_readChoice_0 h x0 x1 x2 M Q) : E (h + 1) mdX4_readChoice [.ref x0, .int x1, .int x2] M Q := E.of (by decide) (Nat.le_of_ble_eq_true rfl) (fun _ _ _ => trivial) (VX4_readChoice_0 H)
def DX4_readAbort_81 (h : Nat) (s0 : Int32) (M : Mem) (Q : Option Value → Mem → Prop) : Prop :=
  Q (some (.int s0)) M
set_option maxRecDepth 20000 in
set_option maxHeartbeats 2000000 in
theorem VX4_readAbort_81 {h : Nat} {s0 : Int32} {M : Mem} {Q : Option Value → Mem → Prop} (H : DX4_readAbort_81 h s0 M Q) : T (h + 1) mdX4_readAbort 81 [] [.int s0] M Q := by
  unfold DX4_readAbort_81 at H
  exact xt_ireturn dX4_readAbort_81 rfl H
def DX4_readAbort_0 (h : Nat) (x0 : Nat) (x1 : Int32) (M : Mem) (Q : Option Value → Mem → Prop) : Prop :=
  ok M x0 6 ∧ E h mdX4_readTrapped [.ref x0, .long 0, .int x1] M (fun r M2 => mE M M2 → ∃ r3 : Int32, r = some (.int r3) ∧ ∃ b4 : Nat, mR M2 x0 0 = some b4 ∧ ok M2 b4 9 ∧ E h mdX7_expect [.ref b4, .int 51] M2 (fun r M6 => mE M2 M6 → r = none ∧ ∃ b7 : Nat, mR M6 x0 0 = some b7 ∧ ok M6 b7 9 ∧ E h mdX7_accept [.ref b7, .int 48] M6 (fun r M9 => mE M6 M9 → ∃ r10 : Int32, r = some (.int r10) ∧ E h mdX4_readCondition [.ref x0] M9 (fun r M11 => mE M9 M11 → ∃ r12 : Int32, r = some (.int r12) ∧ ∃ b13 : Nat, mR M11 x0 0 = some b13 ∧ ok M11 b13 9 ∧ E h mdX7_expect [.ref b13, .int 43] M11 (fun r M15 => mE M11 M15 → r = none ∧ ∃ b16 : Nat, mR M15 x0 1 = some b16 ∧ ok M15 b16 10 ∧ E h mdX8_abort [.ref b16, .int r3, .int r12] M15 (fun r M18 => mE M15 M18 → ∃ r19 : Int32, r = some (.int r19) ∧ (r10 = 0 → DX4_readAbort_81 h r19 M18 Q) ∧
  (¬ (r10 = 0) → ∃ b20 : Nat, mR M18 x0 1 = some b20 ∧ ∃ b21 : Nat, mR M18 x0 1 = some b21 ∧ ok M18 b21 10 ∧ E h mdX8_make [.ref b21, .int 0] M18 (fun r M23 => mE M18 M23 → ∃ r24 : Int32, r = some (.int r24) ∧ ok M23 b20 10 ∧ E h mdX8_choice [.ref b20, .int r12, .int r24, .int r19] M23 (fun r M26 => mE M23 M26 → ∃ r27 : Int32, r = some (.int r27) ∧ DX4_readAbort_81 h r27 M26 Q)))))))))
set_option maxRecDepth 20000 in
set_option maxHeartbeats 2000000 in
theorem VX4_readAbort_0 {h : Nat} {x0 : Nat} {x1 : Int32} {M : Mem} {Q : Option Value → Mem → Prop} (H : DX4_readAbort_0 h x0 x1 M Q) : T (h + 1) mdX4_readAbort 0 [(0, .ref x0), (1, .int x1)] [] M Q := by
  unfold DX4_readAbort_0 at H
  refine xt_aload_n (j := 0) dX4_readAbort_0 rfl rfl ?_
  refine xt_lconst (v := 0) dX4_readAbort_1 (by decide) ?_
  refine xt_iload_n (j := 1) dX4_readAbort_2 rfl rfl ?_
  obtain ⟨ho1, H⟩ := H
  refine xt_callV (h2 := h) (as := [.long 0, .int x1]) (st := []) dX4_readAbort_3 (mlX4_328 rfl) rfl ho1.1 ⟨by rw [ho1.2]; rfl, by rw [ho1.2]; decide⟩ (by first | decide | (simp [Value.category]; done)) (Nat.le_refl _) H (fun r M2 HH hE => ?_)
  obtain ⟨r3, hr, H⟩ := HH hE
  subst hr
  have ho1 := ok_E ho1 hE
  show T _ _ _ _ [.int r3] _ _
  refine xt_istore_n (lv' := [(2, .int r3), (0, .ref x0), (1, .int x1)]) dX4_readAbort_6 rfl (by decide) rfl ?_
  refine xt_aload_n (j := 1) dX4_readAbort_7 rfl rfl ?_
  obtain ⟨b4, hb, H⟩ := H
  refine xt_getR dX4_readAbort_8 (flX4_14 rfl) ft_6_0 ho1.1 ho1.2 hb ?_
  refine xt_bipush (v := 51) dX4_readAbort_11 (by decide) ?_
  obtain ⟨ho5, H⟩ := H
  refine xt_callV (h2 := h) (as := [.int 51]) (st := []) dX4_readAbort_13 (mlX4_114 rfl) rfl ho5.1 ⟨by rw [ho5.2]; rfl, by rw [ho5.2]; decide⟩ (by first | decide | (simp [Value.category]; done)) (Nat.le_refl _) H (fun r M6 HH hE => ?_)
  obtain ⟨hr, H⟩ := HH hE
  subst hr
  have ho1 := ok_E ho1 hE
  show T _ _ _ _ [] _ _
  refine xt_aload_n (j := 1) dX4_readAbort_16 rfl rfl ?_
  obtain ⟨b7, hb, H⟩ := H
  refine xt_getR dX4_readAbort_17 (flX4_14 rfl) ft_6_0 ho1.1 ho1.2 hb ?_
  refine xt_bipush (v := 48) dX4_readAbort_20 (by decide) ?_
  obtain ⟨ho8, H⟩ := H
  refine xt_callV (h2 := h) (as := [.int 48]) (st := []) dX4_readAbort_22 (mlX4_134 rfl) rfl ho8.1 ⟨by rw [ho8.2]; rfl, by rw [ho8.2]; decide⟩ (by first | decide | (simp [Value.category]; done)) (Nat.le_refl _) H (fun r M9 HH hE => ?_)
  obtain ⟨r10, hr, H⟩ := HH hE
  subst hr
  have ho1 := ok_E ho1 hE
  show T _ _ _ _ [.int r10] _ _
  refine xt_istore_n (lv' := [(3, .int r10), (2, .int r3), (0, .ref x0), (1, .int x1)]) dX4_readAbort_25 rfl (by decide) rfl ?_
  refine xt_aload_n (j := 2) dX4_readAbort_26 rfl rfl ?_
  refine xt_callV (h2 := h) (as := []) (st := []) dX4_readAbort_27 (mlX4_234 rfl) rfl ho1.1 ⟨by rw [ho1.2]; rfl, by rw [ho1.2]; decide⟩ (by first | decide | (simp [Value.category]; done)) (Nat.le_refl _) H (fun r M11 HH hE => ?_)
  obtain ⟨r12, hr, H⟩ := HH hE
  subst hr
  have ho1 := ok_E ho1 hE
  show T _ _ _ _ [.int r12] _ _
  refine xt_istore (lv' := [(4, .int r12), (3, .int r10), (2, .int r3), (0, .ref x0), (1, .int x1)]) dX4_readAbort_30 (by decide) rfl ?_
  refine xt_aload_n (j := 3) dX4_readAbort_32 rfl rfl ?_
  obtain ⟨b13, hb, H⟩ := H
  refine xt_getR dX4_readAbort_33 (flX4_14 rfl) ft_6_0 ho1.1 ho1.2 hb ?_
  refine xt_bipush (v := 43) dX4_readAbort_36 (by decide) ?_
  obtain ⟨ho14, H⟩ := H
  refine xt_callV (h2 := h) (as := [.int 43]) (st := []) dX4_readAbort_38 (mlX4_114 rfl) rfl ho14.1 ⟨by rw [ho14.2]; rfl, by rw [ho14.2]; decide⟩ (by first | decide | (simp [Value.category]; done)) (Nat.le_refl _) H (fun r M15 HH hE => ?_)
  obtain ⟨hr, H⟩ := HH hE
  subst hr
  have ho1 := ok_E ho1 hE
  show T _ _ _ _ [] _ _
  refine xt_aload_n (j := 3) dX4_readAbort_41 rfl rfl ?_
  obtain ⟨b16, hb, H⟩ := H
  refine xt_getR dX4_readAbort_42 (flX4_20 rfl) ft_6_1 ho1.1 ho1.2 hb ?_
  refine xt_iload_n (j := 2) dX4_readAbort_45 rfl rfl ?_
  refine xt_iload (j := 0) dX4_readAbort_46 rfl ?_
  obtain ⟨ho17, H⟩ := H
  refine xt_callV (h2 := h) (as := [.int r3, .int r12]) (st := []) dX4_readAbort_48 (mlX4_332 rfl) rfl ho17.1 ⟨by rw [ho17.2]; rfl, by rw [ho17.2]; decide⟩ (by first | decide | (simp [Value.category]; done)) (Nat.le_refl _) H (fun r M18 HH hE => ?_)
  obtain ⟨r19, hr, H⟩ := HH hE
  subst hr
  have ho1 := ok_E ho1 hE
  show T _ _ _ _ [.int r19] _ _
  refine xt_istore (lv' := [(5, .int r19), (4, .int r12), (3, .int r10), (2, .int r3), (0, .ref x0), (1, .int x1)]) dX4_readAbort_51 (by decide) rfl ?_
  refine xt_iload_n (j := 2) dX4_readAbort_53 rfl rfl ?_
  refine xt_if_eq (tgt := 79) dX4_readAbort_54 (by decide) (fun hc => ?_) (fun hc => ?_)
  · have H := H.1 hc
    refine xt_iload (j := 0) dX4_readAbort_79 rfl ?_
    exact xt_sub [] rfl (VX4_readAbort_81 H)
  · have H := H.2 hc
    refine xt_aload_n (j := 4) dX4_readAbort_57 rfl rfl ?_
    obtain ⟨b20, hb, H⟩ := H
    refine xt_getR dX4_readAbort_58 (flX4_20 rfl) ft_6_1 ho1.1 ho1.2 hb ?_
    refine xt_iload (j := 1) dX4_readAbort_61 rfl ?_
    refine xt_aload_n (j := 4) dX4_readAbort_63 rfl rfl ?_
    obtain ⟨b21, hb, H⟩ := H
    refine xt_getR dX4_readAbort_64 (flX4_20 rfl) ft_6_1 ho1.1 ho1.2 hb ?_
    refine xt_iconst (v := 0) dX4_readAbort_67 (by decide) ?_
    obtain ⟨ho22, H⟩ := H
    refine xt_callV (h2 := h) (as := [.int 0]) (st := [.int r12, .ref b20]) dX4_readAbort_68 (mlX4_159 rfl) rfl ho22.1 ⟨by rw [ho22.2]; rfl, by rw [ho22.2]; decide⟩ (by first | decide | (simp [Value.category]; done)) (Nat.le_refl _) H (fun r M23 HH hE => ?_)
    obtain ⟨r24, hr, H⟩ := HH hE
    subst hr
    have ho1 := ok_E ho1 hE
    show T _ _ _ _ [.int r24, .int r12, .ref b20] _ _
    refine xt_iload (j := 0) dX4_readAbort_71 rfl ?_
    obtain ⟨ho25, H⟩ := H
    refine xt_callV (h2 := h) (as := [.int r12, .int r24, .int r19]) (st := []) dX4_readAbort_73 (mlX4_324 rfl) rfl ho25.1 ⟨by rw [ho25.2]; rfl, by rw [ho25.2]; decide⟩ (by first | decide | (simp [Value.category]; done)) (Nat.le_refl _) H (fun r M26 HH hE => ?_)
    obtain ⟨r27, hr, H⟩ := HH hE
    subst hr
    have ho1 := ok_E ho1 hE
    show T _ _ _ _ [.int r27] _ _
    refine xt_goto (tgt := 81) dX4_readAbort_76 (by decide) ?_
    exact xt_sub [] rfl (VX4_readAbort_81 H)
theorem KX4_readAbort {h : Nat} {x0 : Nat} {x1 : Int32} {M : Mem} {Q : Option Value → Mem → Prop} (H : DX4_readAbort_0 h x0 x1 M Q) : E (h + 1) mdX4_readAbort [.ref x0, .int x1] M Q := E.of (by decide) (Nat.le_of_ble_eq_true rfl) (fun _ _ _ => trivial) (VX4_readAbort_0 H)
def DX4_readWeak_0 (h : Nat) (x0 : Nat) (x1 : Int32) (M : Mem) (Q : Option Value → Mem → Prop) : Prop :=
  ok M x0 6 ∧ ∃ b2 : Nat, mR M x0 0 = some b2 ∧ ok M b2 9 ∧ E h mdX7_expect [.ref b2, .int 49] M (fun r M4 => mE M M4 → r = none ∧ E h mdX4_readTrapped [.ref x0, .long 0, .int x1] M4 (fun r M5 => mE M4 M5 → ∃ r6 : Int32, r = some (.int r6) ∧ ∃ b7 : Nat, mR M5 x0 0 = some b7 ∧ ok M5 b7 9 ∧ E h mdX7_expect [.ref b7, .int 51] M5 (fun r M9 => mE M5 M9 → r = none ∧ ∃ b10 : Nat, mR M9 x0 0 = some b10 ∧ ok M9 b10 9 ∧ E h mdX7_accept [.ref b10, .int 48] M9 (fun r M12 => mE M9 M12 → ∃ r13 : Int32, r = some (.int r13) ∧ E h mdX4_readCondition [.ref x0] M12 (fun r M14 => mE M12 M14 → ∃ r15 : Int32, r = some (.int r15) ∧ ∃ b16 : Nat, mR M14 x0 0 = some b16 ∧ ok M14 b16 9 ∧ E h mdX7_expect [.ref b16, .int 43] M14 (fun r M18 => mE M14 M18 → r = none ∧ ∃ b19 : Nat, mR M18 x0 1 = some b19 ∧ ok M18 b19 10 ∧ E h mdX8_weak [.ref b19, .int r6, .int r15, .int r13] M18 (fun r M21 => mE M18 M21 → ∃ r22 : Int32, r = some (.int r22) ∧ Q (some (.int r22)) M21)))))))
set_option maxRecDepth 20000 in
set_option maxHeartbeats 2000000 in
theorem VX4_readWeak_0 {h : Nat} {x0 : Nat} {x1 : Int32} {M : Mem} {Q : Option Value → Mem → Prop} (H : DX4_readWeak_0 h x0 x1 M Q) : T (h + 1) mdX4_readWeak 0 [(0, .ref x0), (1, .int x1)] [] M Q := by
  unfold DX4_readWeak_0 at H
  refine xt_aload_n (j := 0) dX4_readWeak_0 rfl rfl ?_
  obtain ⟨ho1, H⟩ := H
  obtain ⟨b2, hb, H⟩ := H
  refine xt_getR dX4_readWeak_1 (flX4_14 rfl) ft_6_0 ho1.1 ho1.2 hb ?_
  refine xt_bipush (v := 49) dX4_readWeak_4 (by decide) ?_
  obtain ⟨ho3, H⟩ := H
  refine xt_callV (h2 := h) (as := [.int 49]) (st := []) dX4_readWeak_6 (mlX4_114 rfl) rfl ho3.1 ⟨by rw [ho3.2]; rfl, by rw [ho3.2]; decide⟩ (by first | decide | (simp [Value.category]; done)) (Nat.le_refl _) H (fun r M4 HH hE => ?_)
  obtain ⟨hr, H⟩ := HH hE
  subst hr
  have ho1 := ok_E ho1 hE
  show T _ _ _ _ [] _ _
  refine xt_aload_n (j := 0) dX4_readWeak_9 rfl rfl ?_
  refine xt_lconst (v := 0) dX4_readWeak_10 (by decide) ?_
  refine xt_iload_n (j := 1) dX4_readWeak_11 rfl rfl ?_
  refine xt_callV (h2 := h) (as := [.long 0, .int x1]) (st := []) dX4_readWeak_12 (mlX4_328 rfl) rfl ho1.1 ⟨by rw [ho1.2]; rfl, by rw [ho1.2]; decide⟩ (by first | decide | (simp [Value.category]; done)) (Nat.le_refl _) H (fun r M5 HH hE => ?_)
  obtain ⟨r6, hr, H⟩ := HH hE
  subst hr
  have ho1 := ok_E ho1 hE
  show T _ _ _ _ [.int r6] _ _
  refine xt_istore_n (lv' := [(2, .int r6), (0, .ref x0), (1, .int x1)]) dX4_readWeak_15 rfl (by decide) rfl ?_
  refine xt_aload_n (j := 1) dX4_readWeak_16 rfl rfl ?_
  obtain ⟨b7, hb, H⟩ := H
  refine xt_getR dX4_readWeak_17 (flX4_14 rfl) ft_6_0 ho1.1 ho1.2 hb ?_
  refine xt_bipush (v := 51) dX4_readWeak_20 (by decide) ?_
  obtain ⟨ho8, H⟩ := H
  refine xt_callV (h2 := h) (as := [.int 51]) (st := []) dX4_readWeak_22 (mlX4_114 rfl) rfl ho8.1 ⟨by rw [ho8.2]; rfl, by rw [ho8.2]; decide⟩ (by first | decide | (simp [Value.category]; done)) (Nat.le_refl _) H (fun r M9 HH hE => ?_)
  obtain ⟨hr, H⟩ := HH hE
  subst hr
  have ho1 := ok_E ho1 hE
  show T _ _ _ _ [] _ _
  refine xt_aload_n (j := 1) dX4_readWeak_25 rfl rfl ?_
  obtain ⟨b10, hb, H⟩ := H
  refine xt_getR dX4_readWeak_26 (flX4_14 rfl) ft_6_0 ho1.1 ho1.2 hb ?_
  refine xt_bipush (v := 48) dX4_readWeak_29 (by decide) ?_
  obtain ⟨ho11, H⟩ := H
  refine xt_callV (h2 := h) (as := [.int 48]) (st := []) dX4_readWeak_31 (mlX4_134 rfl) rfl ho11.1 ⟨by rw [ho11.2]; rfl, by rw [ho11.2]; decide⟩ (by first | decide | (simp [Value.category]; done)) (Nat.le_refl _) H (fun r M12 HH hE => ?_)
  obtain ⟨r13, hr, H⟩ := HH hE
  subst hr
  have ho1 := ok_E ho1 hE
  show T _ _ _ _ [.int r13] _ _
  refine xt_istore_n (lv' := [(3, .int r13), (2, .int r6), (0, .ref x0), (1, .int x1)]) dX4_readWeak_34 rfl (by decide) rfl ?_
  refine xt_aload_n (j := 2) dX4_readWeak_35 rfl rfl ?_
  refine xt_callV (h2 := h) (as := []) (st := []) dX4_readWeak_36 (mlX4_234 rfl) rfl ho1.1 ⟨by rw [ho1.2]; rfl, by rw [ho1.2]; decide⟩ (by first | decide | (simp [Value.category]; done)) (Nat.le_refl _) H (fun r M14 HH hE => ?_)
  obtain ⟨r15, hr, H⟩ := HH hE
  subst hr
  have ho1 := ok_E ho1 hE
  show T _ _ _ _ [.int r15] _ _
  refine xt_istore (lv' := [(4, .int r15), (3, .int r13), (2, .int r6), (0, .ref x0), (1, .int x1)]) dX4_readWeak_39 (by decide) rfl ?_
  refine xt_aload_n (j := 3) dX4_readWeak_41 rfl rfl ?_
  obtain ⟨b16, hb, H⟩ := H
  refine xt_getR dX4_readWeak_42 (flX4_14 rfl) ft_6_0 ho1.1 ho1.2 hb ?_
  refine xt_bipush (v := 43) dX4_readWeak_45 (by decide) ?_
  obtain ⟨ho17, H⟩ := H
  refine xt_callV (h2 := h) (as := [.int 43]) (st := []) dX4_readWeak_47 (mlX4_114 rfl) rfl ho17.1 ⟨by rw [ho17.2]; rfl, by rw [ho17.2]; decide⟩ (by first | decide | (simp [Value.category]; done)) (Nat.le_refl _) H (fun r M18 HH hE => ?_)
  obtain ⟨hr, H⟩ := HH hE
  subst hr
  have ho1 := ok_E ho1 hE
  show T _ _ _ _ [] _ _
  refine xt_aload_n (j := 3) dX4_readWeak_50 rfl rfl ?_
  obtain ⟨b19, hb, H⟩ := H
  refine xt_getR dX4_readWeak_51 (flX4_20 rfl) ft_6_1 ho1.1 ho1.2 hb ?_
  refine xt_iload_n (j := 2) dX4_readWeak_54 rfl rfl ?_
  refine xt_iload (j := 0) dX4_readWeak_55 rfl ?_
  refine xt_iload_n (j := 1) dX4_readWeak_57 rfl rfl ?_
  obtain ⟨ho20, H⟩ := H
  refine xt_callV (h2 := h) (as := [.int r6, .int r15, .int r13]) (st := []) dX4_readWeak_58 (mlX4_335 rfl) rfl ho20.1 ⟨by rw [ho20.2]; rfl, by rw [ho20.2]; decide⟩ (by first | decide | (simp [Value.category]; done)) (Nat.le_refl _) H (fun r M21 HH hE => ?_)
  obtain ⟨r22, hr, H⟩ := HH hE
  subst hr
  have ho1 := ok_E ho1 hE
  show T _ _ _ _ [.int r22] _ _
  exact xt_ireturn dX4_readWeak_61 rfl H
theorem KX4_readWeak {h : Nat} {x0 : Nat} {x1 : Int32} {M : Mem} {Q : Option Value → Mem → Prop} (H : DX4_readWeak_0 h x0 x1 M Q) : E (h + 1) mdX4_readWeak [.ref x0, .int x1] M Q := E.of (by decide) (Nat.le_of_ble_eq_true rfl) (fun _ _ _ => trivial) (VX4_readWeak_0 H)
def DX4_readSuspend_0 (h : Nat) (x0 : Nat) (x1 : Int32) (M : Mem) (Q : Option Value → Mem → Prop) : Prop :=
  ok M x0 6 ∧ E h mdX4_readSeq [.ref x0, .int x1] M (fun r M2 => mE M M2 → ∃ r3 : Int32, r = some (.int r3) ∧ ∃ b4 : Nat, mR M2 x0 0 = some b4 ∧ ok M2 b4 9 ∧ E h mdX7_expect [.ref b4, .int 51] M2 (fun r M6 => mE M2 M6 → r = none ∧ E h mdX4_readCondition [.ref x0] M6 (fun r M7 => mE M6 M7 → ∃ r8 : Int32, r = some (.int r8) ∧ ∃ b9 : Nat, mR M7 x0 0 = some b9 ∧ ok M7 b9 9 ∧ E h mdX7_expect [.ref b9, .int 43] M7 (fun r M11 => mE M7 M11 → r = none ∧ ∃ b12 : Nat, mR M11 x0 1 = some b12 ∧ ok M11 b12 10 ∧ E h mdX8_suspend [.ref b12, .int r3, .int r8] M11 (fun r M14 => mE M11 M14 → ∃ r15 : Int32, r = some (.int r15) ∧ Q (some (.int r15)) M14)))))
set_option maxRecDepth 20000 in
set_option maxHeartbeats 2000000 in
theorem VX4_readSuspend_0 {h : Nat} {x0 : Nat} {x1 : Int32} {M : Mem} {Q : Option Value → Mem → Prop} (H : DX4_readSuspend_0 h x0 x1 M Q) : T (h + 1) mdX4_readSuspend 0 [(0, .ref x0), (1, .int x1)] [] M Q := by
  unfold DX4_readSuspend_0 at H
  refine xt_aload_n (j := 0) dX4_readSuspend_0 rfl rfl ?_
  refine xt_iload_n (j := 1) dX4_readSuspend_1 rfl rfl ?_
  obtain ⟨ho1, H⟩ := H
  refine xt_callV (h2 := h) (as := [.int x1]) (st := []) dX4_readSuspend_2 (mlX4_59 rfl) rfl ho1.1 ⟨by rw [ho1.2]; rfl, by rw [ho1.2]; decide⟩ (by first | decide | (simp [Value.category]; done)) (Nat.le_refl _) H (fun r M2 HH hE => ?_)
  obtain ⟨r3, hr, H⟩ := HH hE
  subst hr
  have ho1 := ok_E ho1 hE
  show T _ _ _ _ [.int r3] _ _
  refine xt_istore_n (lv' := [(2, .int r3), (0, .ref x0), (1, .int x1)]) dX4_readSuspend_5 rfl (by decide) rfl ?_
  refine xt_aload_n (j := 1) dX4_readSuspend_6 rfl rfl ?_
  obtain ⟨b4, hb, H⟩ := H
  refine xt_getR dX4_readSuspend_7 (flX4_14 rfl) ft_6_0 ho1.1 ho1.2 hb ?_
  refine xt_bipush (v := 51) dX4_readSuspend_10 (by decide) ?_
  obtain ⟨ho5, H⟩ := H
  refine xt_callV (h2 := h) (as := [.int 51]) (st := []) dX4_readSuspend_12 (mlX4_114 rfl) rfl ho5.1 ⟨by rw [ho5.2]; rfl, by rw [ho5.2]; decide⟩ (by first | decide | (simp [Value.category]; done)) (Nat.le_refl _) H (fun r M6 HH hE => ?_)
  obtain ⟨hr, H⟩ := HH hE
  subst hr
  have ho1 := ok_E ho1 hE
  show T _ _ _ _ [] _ _
  refine xt_aload_n (j := 1) dX4_readSuspend_15 rfl rfl ?_
  refine xt_callV (h2 := h) (as := []) (st := []) dX4_readSuspend_16 (mlX4_234 rfl) rfl ho1.1 ⟨by rw [ho1.2]; rfl, by rw [ho1.2]; decide⟩ (by first | decide | (simp [Value.category]; done)) (Nat.le_refl _) H (fun r M7 HH hE => ?_)
  obtain ⟨r8, hr, H⟩ := HH hE
  subst hr
  have ho1 := ok_E ho1 hE
  show T _ _ _ _ [.int r8] _ _
  refine xt_istore_n (lv' := [(3, .int r8), (2, .int r3), (0, .ref x0), (1, .int x1)]) dX4_readSuspend_19 rfl (by decide) rfl ?_
  refine xt_aload_n (j := 2) dX4_readSuspend_20 rfl rfl ?_
  obtain ⟨b9, hb, H⟩ := H
  refine xt_getR dX4_readSuspend_21 (flX4_14 rfl) ft_6_0 ho1.1 ho1.2 hb ?_
  refine xt_bipush (v := 43) dX4_readSuspend_24 (by decide) ?_
  obtain ⟨ho10, H⟩ := H
  refine xt_callV (h2 := h) (as := [.int 43]) (st := []) dX4_readSuspend_26 (mlX4_114 rfl) rfl ho10.1 ⟨by rw [ho10.2]; rfl, by rw [ho10.2]; decide⟩ (by first | decide | (simp [Value.category]; done)) (Nat.le_refl _) H (fun r M11 HH hE => ?_)
  obtain ⟨hr, H⟩ := HH hE
  subst hr
  have ho1 := ok_E ho1 hE
  show T _ _ _ _ [] _ _
  refine xt_aload_n (j := 2) dX4_readSuspend_29 rfl rfl ?_
  obtain ⟨b12, hb, H⟩ := H
  refine xt_getR dX4_readSuspend_30 (flX4_20 rfl) ft_6_1 ho1.1 ho1.2 hb ?_
  refine xt_iload_n (j := 1) dX4_readSuspend_33 rfl rfl ?_
  refine xt_iload_n (j := 0) dX4_readSuspend_34 rfl rfl ?_
  obtain ⟨ho13, H⟩ := H
  refine xt_callV (h2 := h) (as := [.int r3, .int r8]) (st := []) dX4_readSuspend_35 (mlX4_339 rfl) rfl ho13.1 ⟨by rw [ho13.2]; rfl, by rw [ho13.2]; decide⟩ (by first | decide | (simp [Value.category]; done)) (Nat.le_refl _) H (fun r M14 HH hE => ?_)
  obtain ⟨r15, hr, H⟩ := HH hE
  subst hr
  have ho1 := ok_E ho1 hE
  show T _ _ _ _ [.int r15] _ _
  exact xt_ireturn dX4_readSuspend_38 rfl H
theorem KX4_readSuspend {h : Nat} {x0 : Nat} {x1 : Int32} {M : Mem} {Q : Option Value → Mem → Prop} (H : DX4_readSuspend_0 h x0 x1 M Q) : E (h + 1) mdX4_readSuspend [.ref x0, .int x1] M Q := E.of (by decide) (Nat.le_of_ble_eq_true rfl) (fun _ _ _ => trivial) (VX4_readSuspend_0 H)
def DX4_readEvery_0 (h : Nat) (x0 : Nat) (x1 : Int32) (M : Mem) (Q : Option Value → Mem → Prop) : Prop :=
  ok M x0 6 ∧ ∃ b2 : Nat, mR M x0 0 = some b2 ∧ ok M b2 9 ∧ E h mdX7_accept [.ref b2, .int 48] M (fun r M4 => mE M M4 → ∃ r5 : Int32, r = some (.int r5) ∧ E h mdX4_readCondition [.ref x0] M4 (fun r M6 => mE M4 M6 → ∃ r7 : Int32, r = some (.int r7) ∧ ∃ b8 : Nat, mR M6 x0 1 = some b8 ∧ ok M6 b8 10 ∧ E h mdX8_await [.ref b8, .int r7, .int r5] M6 (fun r M10 => mE M6 M10 → ∃ r11 : Int32, r = some (.int r11) ∧ ∃ b12 : Nat, mR M10 x0 0 = some b12 ∧ ok M10 b12 9 ∧ E h mdX7_expect [.ref b12, .int 54] M10 (fun r M14 => mE M10 M14 → r = none ∧ E h mdX4_readTrapped [.ref x0, .long 0, .int x1] M14 (fun r M15 => mE M14 M15 → ∃ r16 : Int32, r = some (.int r16) ∧ ∃ b17 : Nat, mR M15 x0 0 = some b17 ∧ ok M15 b17 9 ∧ E h mdX7_expect [.ref b17, .int 43] M15 (fun r M19 => mE M15 M19 → r = none ∧ ∃ b20 : Nat, mR M19 x0 1 = some b20 ∧ ∃ b21 : Nat, mR M19 x0 1 = some b21 ∧ ok M19 b21 10 ∧ E h mdX8_halt [.ref b21] M19 (fun r M23 => mE M19 M23 → ∃ r24 : Int32, r = some (.int r24) ∧ ok M23 b20 10 ∧ E h mdX8_pair [.ref b20, .int 5, .int r16, .int r24] M23 (fun r M26 => mE M23 M26 → ∃ r27 : Int32, r = some (.int r27) ∧ ∃ b28 : Nat, mR M26 x0 1 = some b28 ∧ ∃ b29 : Nat, mR M26 x0 1 = some b29 ∧ ∃ b30 : Nat, mR M26 x0 1 = some b30 ∧ ok M26 b30 10 ∧ E h mdX8_abort [.ref b30, .int r27, .int r7] M26 (fun r M32 => mE M26 M32 → ∃ r33 : Int32, r = some (.int r33) ∧ ok M32 b29 10 ∧ E h mdX8_wrap [.ref b29, .int 6, .int r33] M32 (fun r M35 => mE M32 M35 → ∃ r36 : Int32, r = some (.int r36) ∧ ok M35 b28 10 ∧ E h mdX8_pair [.ref b28, .int 5, .int r11, .int r36] M35 (fun r M38 => mE M35 M38 → ∃ r39 : Int32, r = some (.int r39) ∧ Q (some (.int r39)) M38)))))))))))
set_option maxRecDepth 20000 in
set_option maxHeartbeats 2000000 in
theorem VX4_readEvery_0 {h : Nat} {x0 : Nat} {x1 : Int32} {M : Mem} {Q : Option Value → Mem → Prop} (H : DX4_readEvery_0 h x0 x1 M Q) : T (h + 1) mdX4_readEvery 0 [(0, .ref x0), (1, .int x1)] [] M Q := by
  unfold DX4_readEvery_0 at H
  refine xt_aload_n (j := 0) dX4_readEvery_0 rfl rfl ?_
  obtain ⟨ho1, H⟩ := H
  obtain ⟨b2, hb, H⟩ := H
  refine xt_getR dX4_readEvery_1 (flX4_14 rfl) ft_6_0 ho1.1 ho1.2 hb ?_
  refine xt_bipush (v := 48) dX4_readEvery_4 (by decide) ?_
  obtain ⟨ho3, H⟩ := H
  refine xt_callV (h2 := h) (as := [.int 48]) (st := []) dX4_readEvery_6 (mlX4_134 rfl) rfl ho3.1 ⟨by rw [ho3.2]; rfl, by rw [ho3.2]; decide⟩ (by first | decide | (simp [Value.category]; done)) (Nat.le_refl _) H (fun r M4 HH hE => ?_)
  obtain ⟨r5, hr, H⟩ := HH hE
  subst hr
  have ho1 := ok_E ho1 hE
  show T _ _ _ _ [.int r5] _ _
  refine xt_istore_n (lv' := [(2, .int r5), (0, .ref x0), (1, .int x1)]) dX4_readEvery_9 rfl (by decide) rfl ?_
  refine xt_aload_n (j := 1) dX4_readEvery_10 rfl rfl ?_
  refine xt_callV (h2 := h) (as := []) (st := []) dX4_readEvery_11 (mlX4_234 rfl) rfl ho1.1 ⟨by rw [ho1.2]; rfl, by rw [ho1.2]; decide⟩ (by first | decide | (simp [Value.category]; done)) (Nat.le_refl _) H (fun r M6 HH hE => ?_)
  obtain ⟨r7, hr, H⟩ := HH hE
  subst hr
  have ho1 := ok_E ho1 hE
  show T _ _ _ _ [.int r7] _ _
  refine xt_istore_n (lv' := [(3, .int r7), (2, .int r5), (0, .ref x0), (1, .int x1)]) dX4_readEvery_14 rfl (by decide) rfl ?_
  refine xt_aload_n (j := 2) dX4_readEvery_15 rfl rfl ?_
  obtain ⟨b8, hb, H⟩ := H
  refine xt_getR dX4_readEvery_16 (flX4_20 rfl) ft_6_1 ho1.1 ho1.2 hb ?_
  refine xt_iload_n (j := 0) dX4_readEvery_19 rfl rfl ?_
  refine xt_iload_n (j := 1) dX4_readEvery_20 rfl rfl ?_
  obtain ⟨ho9, H⟩ := H
  refine xt_callV (h2 := h) (as := [.int r7, .int r5]) (st := []) dX4_readEvery_21 (mlX4_240 rfl) rfl ho9.1 ⟨by rw [ho9.2]; rfl, by rw [ho9.2]; decide⟩ (by first | decide | (simp [Value.category]; done)) (Nat.le_refl _) H (fun r M10 HH hE => ?_)
  obtain ⟨r11, hr, H⟩ := HH hE
  subst hr
  have ho1 := ok_E ho1 hE
  show T _ _ _ _ [.int r11] _ _
  refine xt_istore (lv' := [(4, .int r11), (3, .int r7), (2, .int r5), (0, .ref x0), (1, .int x1)]) dX4_readEvery_24 (by decide) rfl ?_
  refine xt_aload_n (j := 3) dX4_readEvery_26 rfl rfl ?_
  obtain ⟨b12, hb, H⟩ := H
  refine xt_getR dX4_readEvery_27 (flX4_14 rfl) ft_6_0 ho1.1 ho1.2 hb ?_
  refine xt_bipush (v := 54) dX4_readEvery_30 (by decide) ?_
  obtain ⟨ho13, H⟩ := H
  refine xt_callV (h2 := h) (as := [.int 54]) (st := []) dX4_readEvery_32 (mlX4_114 rfl) rfl ho13.1 ⟨by rw [ho13.2]; rfl, by rw [ho13.2]; decide⟩ (by first | decide | (simp [Value.category]; done)) (Nat.le_refl _) H (fun r M14 HH hE => ?_)
  obtain ⟨hr, H⟩ := HH hE
  subst hr
  have ho1 := ok_E ho1 hE
  show T _ _ _ _ [] _ _
  refine xt_aload_n (j := 3) dX4_readEvery_35 rfl rfl ?_
  refine xt_lconst (v := 0) dX4_readEvery_36 (by decide) ?_
  refine xt_iload_n (j := 4) dX4_readEvery_37 rfl rfl ?_
  refine xt_callV (h2 := h) (as := [.long 0, .int x1]) (st := []) dX4_readEvery_38 (mlX4_328 rfl) rfl ho1.1 ⟨by rw [ho1.2]; rfl, by rw [ho1.2]; decide⟩ (by first | decide | (simp [Value.category]; done)) (Nat.le_refl _) H (fun r M15 HH hE => ?_)
  obtain ⟨r16, hr, H⟩ := HH hE
  subst hr
  have ho1 := ok_E ho1 hE
  show T _ _ _ _ [.int r16] _ _
  refine xt_istore (lv' := [(5, .int r16), (4, .int r11), (3, .int r7), (2, .int r5), (0, .ref x0), (1, .int x1)]) dX4_readEvery_41 (by decide) rfl ?_
  refine xt_aload_n (j := 4) dX4_readEvery_43 rfl rfl ?_
  obtain ⟨b17, hb, H⟩ := H
  refine xt_getR dX4_readEvery_44 (flX4_14 rfl) ft_6_0 ho1.1 ho1.2 hb ?_
  refine xt_bipush (v := 43) dX4_readEvery_47 (by decide) ?_
  obtain ⟨ho18, H⟩ := H
  refine xt_callV (h2 := h) (as := [.int 43]) (st := []) dX4_readEvery_49 (mlX4_114 rfl) rfl ho18.1 ⟨by rw [ho18.2]; rfl, by rw [ho18.2]; decide⟩ (by first | decide | (simp [Value.category]; done)) (Nat.le_refl _) H (fun r M19 HH hE => ?_)
  obtain ⟨hr, H⟩ := HH hE
  subst hr
  have ho1 := ok_E ho1 hE
  show T _ _ _ _ [] _ _
  refine xt_aload_n (j := 4) dX4_readEvery_52 rfl rfl ?_
  obtain ⟨b20, hb, H⟩ := H
  refine xt_getR dX4_readEvery_53 (flX4_20 rfl) ft_6_1 ho1.1 ho1.2 hb ?_
  refine xt_iconst (v := 5) dX4_readEvery_56 (by decide) ?_
  refine xt_iload (j := 0) dX4_readEvery_57 rfl ?_
  refine xt_aload_n (j := 4) dX4_readEvery_59 rfl rfl ?_
  obtain ⟨b21, hb, H⟩ := H
  refine xt_getR dX4_readEvery_60 (flX4_20 rfl) ft_6_1 ho1.1 ho1.2 hb ?_
  obtain ⟨ho22, H⟩ := H
  refine xt_callV (h2 := h) (as := []) (st := [.int r16, .int 5, .ref b20]) dX4_readEvery_63 (mlX4_220 rfl) rfl ho22.1 ⟨by rw [ho22.2]; rfl, by rw [ho22.2]; decide⟩ (by first | decide | (simp [Value.category]; done)) (Nat.le_refl _) H (fun r M23 HH hE => ?_)
  obtain ⟨r24, hr, H⟩ := HH hE
  subst hr
  have ho1 := ok_E ho1 hE
  show T _ _ _ _ [.int r24, .int r16, .int 5, .ref b20] _ _
  obtain ⟨ho25, H⟩ := H
  refine xt_callV (h2 := h) (as := [.int 5, .int r16, .int r24]) (st := []) dX4_readEvery_66 (mlX4_342 rfl) rfl ho25.1 ⟨by rw [ho25.2]; rfl, by rw [ho25.2]; decide⟩ (by first | decide | (simp [Value.category]; done)) (Nat.le_refl _) H (fun r M26 HH hE => ?_)
  obtain ⟨r27, hr, H⟩ := HH hE
  subst hr
  have ho1 := ok_E ho1 hE
  show T _ _ _ _ [.int r27] _ _
  refine xt_istore (lv' := [(6, .int r27), (5, .int r16), (4, .int r11), (3, .int r7), (2, .int r5), (0, .ref x0), (1, .int x1)]) dX4_readEvery_69 (by decide) rfl ?_
  refine xt_aload_n (j := 5) dX4_readEvery_71 rfl rfl ?_
  obtain ⟨b28, hb, H⟩ := H
  refine xt_getR dX4_readEvery_72 (flX4_20 rfl) ft_6_1 ho1.1 ho1.2 hb ?_
  refine xt_iconst (v := 5) dX4_readEvery_75 (by decide) ?_
  refine xt_iload (j := 2) dX4_readEvery_76 rfl ?_
  refine xt_aload_n (j := 5) dX4_readEvery_78 rfl rfl ?_
  obtain ⟨b29, hb, H⟩ := H
  refine xt_getR dX4_readEvery_79 (flX4_20 rfl) ft_6_1 ho1.1 ho1.2 hb ?_
  refine xt_bipush (v := 6) dX4_readEvery_82 (by decide) ?_
  refine xt_aload_n (j := 5) dX4_readEvery_84 rfl rfl ?_
  obtain ⟨b30, hb, H⟩ := H
  refine xt_getR dX4_readEvery_85 (flX4_20 rfl) ft_6_1 ho1.1 ho1.2 hb ?_
  refine xt_iload (j := 0) dX4_readEvery_88 rfl ?_
  refine xt_iload_n (j := 3) dX4_readEvery_90 rfl rfl ?_
  obtain ⟨ho31, H⟩ := H
  refine xt_callV (h2 := h) (as := [.int r27, .int r7]) (st := [.int 6, .ref b29, .int r11, .int 5, .ref b28]) dX4_readEvery_91 (mlX4_332 rfl) rfl ho31.1 ⟨by rw [ho31.2]; rfl, by rw [ho31.2]; decide⟩ (by first | decide | (simp [Value.category]; done)) (Nat.le_refl _) H (fun r M32 HH hE => ?_)
  obtain ⟨r33, hr, H⟩ := HH hE
  subst hr
  have ho1 := ok_E ho1 hE
  show T _ _ _ _ [.int r33, .int 6, .ref b29, .int r11, .int 5, .ref b28] _ _
  obtain ⟨ho34, H⟩ := H
  refine xt_callV (h2 := h) (as := [.int 6, .int r33]) (st := [.int r11, .int 5, .ref b28]) dX4_readEvery_94 (mlX4_321 rfl) rfl ho34.1 ⟨by rw [ho34.2]; rfl, by rw [ho34.2]; decide⟩ (by first | decide | (simp [Value.category]; done)) (Nat.le_refl _) H (fun r M35 HH hE => ?_)
  obtain ⟨r36, hr, H⟩ := HH hE
  subst hr
  have ho1 := ok_E ho1 hE
  show T _ _ _ _ [.int r36, .int r11, .int 5, .ref b28] _ _
  obtain ⟨ho37, H⟩ := H
  refine xt_callV (h2 := h) (as := [.int 5, .int r11, .int r36]) (st := []) dX4_readEvery_97 (mlX4_342 rfl) rfl ho37.1 ⟨by rw [ho37.2]; rfl, by rw [ho37.2]; decide⟩ (by first | decide | (simp [Value.category]; done)) (Nat.le_refl _) H (fun r M38 HH hE => ?_)
  obtain ⟨r39, hr, H⟩ := HH hE
  subst hr
  have ho1 := ok_E ho1 hE
  show T _ _ _ _ [.int r39] _ _
  exact xt_ireturn dX4_readEvery_100 rfl H
theorem KX4_readEvery {h : Nat} {x0 : Nat} {x1 : Int32} {M : Mem} {Q : Option Value → Mem → Prop} (H : DX4_readEvery_0 h x0 x1 M Q) : E (h + 1) mdX4_readEvery [.ref x0, .int x1] M Q := E.of (by decide) (Nat.le_of_ble_eq_true rfl) (fun _ _ _ => trivial) (VX4_readEvery_0 H)
def DX4_readTrap_58 (h : Nat) (x0 : Nat) (x1 : Int32) (x2 : Int64) (M : Mem) (Q : Option Value → Mem → Prop) : Prop :=
  ok M x0 6 ∧ ∃ b2 : Nat, mR M x0 0 = some b2 ∧ ok M b2 9 ∧ E h mdX7_advance [.ref b2] M (fun r M4 => mE M M4 → r = none ∧ ∃ b5 : Nat, mR M4 x0 0 = some b5 ∧ ok M4 b5 9 ∧ E h mdX7_expect [.ref b5, .int 56] M4 (fun r M7 => mE M4 M7 → r = none ∧ E h mdX4_readTrapped [.ref x0, .long x2, .int x1] M7 (fun r M8 => mE M7 M8 → ∃ r9 : Int32, r = some (.int r9) ∧ ∃ b10 : Nat, mR M8 x0 0 = some b10 ∧ ok M8 b10 9 ∧ E h mdX7_expect [.ref b10, .int 43] M8 (fun r M12 => mE M8 M12 → r = none ∧ ∃ b13 : Nat, mR M12 x0 1 = some b13 ∧ ok M12 b13 10 ∧ E h mdX8_wrap [.ref b13, .int 9, .int r9] M12 (fun r M15 => mE M12 M15 → ∃ r16 : Int32, r = some (.int r16) ∧ Q (some (.int r16)) M15)))))
set_option maxRecDepth 20000 in
set_option maxHeartbeats 2000000 in
theorem VX4_readTrap_58 {h : Nat} {x0 : Nat} {x1 : Int32} {x2 : Int64} {M : Mem} {Q : Option Value → Mem → Prop} (H : DX4_readTrap_58 h x0 x1 x2 M Q) : T (h + 1) mdX4_readTrap 58 [(0, .ref x0), (1, .int x1), (2, .long x2)] [] M Q := by
  unfold DX4_readTrap_58 at H
  refine xt_aload_n (j := 0) dX4_readTrap_58 rfl rfl ?_
  obtain ⟨ho1, H⟩ := H
  obtain ⟨b2, hb, H⟩ := H
  refine xt_getR dX4_readTrap_59 (flX4_14 rfl) ft_6_0 ho1.1 ho1.2 hb ?_
  obtain ⟨ho3, H⟩ := H
  refine xt_callV (h2 := h) (as := []) (st := []) dX4_readTrap_62 (mlX4_117 rfl) rfl ho3.1 ⟨by rw [ho3.2]; rfl, by rw [ho3.2]; decide⟩ (by first | decide | (simp [Value.category]; done)) (Nat.le_refl _) H (fun r M4 HH hE => ?_)
  obtain ⟨hr, H⟩ := HH hE
  subst hr
  have ho1 := ok_E ho1 hE
  show T _ _ _ _ [] _ _
  refine xt_aload_n (j := 0) dX4_readTrap_65 rfl rfl ?_
  obtain ⟨b5, hb, H⟩ := H
  refine xt_getR dX4_readTrap_66 (flX4_14 rfl) ft_6_0 ho1.1 ho1.2 hb ?_
  refine xt_bipush (v := 56) dX4_readTrap_69 (by decide) ?_
  obtain ⟨ho6, H⟩ := H
  refine xt_callV (h2 := h) (as := [.int 56]) (st := []) dX4_readTrap_71 (mlX4_114 rfl) rfl ho6.1 ⟨by rw [ho6.2]; rfl, by rw [ho6.2]; decide⟩ (by first | decide | (simp [Value.category]; done)) (Nat.le_refl _) H (fun r M7 HH hE => ?_)
  obtain ⟨hr, H⟩ := HH hE
  subst hr
  have ho1 := ok_E ho1 hE
  show T _ _ _ _ [] _ _
  refine xt_aload_n (j := 0) dX4_readTrap_74 rfl rfl ?_
  refine xt_lload_n (j := 2) dX4_readTrap_75 rfl rfl ?_
  refine xt_iload_n (j := 1) dX4_readTrap_76 rfl rfl ?_
  refine xt_callV (h2 := h) (as := [.long x2, .int x1]) (st := []) dX4_readTrap_77 (mlX4_328 rfl) rfl ho1.1 ⟨by rw [ho1.2]; rfl, by rw [ho1.2]; decide⟩ (by first | decide | (simp [Value.category]; done)) (Nat.le_refl _) H (fun r M8 HH hE => ?_)
  obtain ⟨r9, hr, H⟩ := HH hE
  subst hr
  have ho1 := ok_E ho1 hE
  show T _ _ _ _ [.int r9] _ _
  refine xt_istore (lv' := [(4, .int r9), (0, .ref x0), (1, .int x1), (2, .long x2)]) dX4_readTrap_80 (by decide) rfl ?_
  refine xt_aload_n (j := 1) dX4_readTrap_82 rfl rfl ?_
  obtain ⟨b10, hb, H⟩ := H
  refine xt_getR dX4_readTrap_83 (flX4_14 rfl) ft_6_0 ho1.1 ho1.2 hb ?_
  refine xt_bipush (v := 43) dX4_readTrap_86 (by decide) ?_
  obtain ⟨ho11, H⟩ := H
  refine xt_callV (h2 := h) (as := [.int 43]) (st := []) dX4_readTrap_88 (mlX4_114 rfl) rfl ho11.1 ⟨by rw [ho11.2]; rfl, by rw [ho11.2]; decide⟩ (by first | decide | (simp [Value.category]; done)) (Nat.le_refl _) H (fun r M12 HH hE => ?_)
  obtain ⟨hr, H⟩ := HH hE
  subst hr
  have ho1 := ok_E ho1 hE
  show T _ _ _ _ [] _ _
  refine xt_aload_n (j := 1) dX4_readTrap_91 rfl rfl ?_
  obtain ⟨b13, hb, H⟩ := H
  refine xt_getR dX4_readTrap_92 (flX4_20 rfl) ft_6_1 ho1.1 ho1.2 hb ?_
  refine xt_bipush (v := 9) dX4_readTrap_95 (by decide) ?_
  refine xt_iload (j := 0) dX4_readTrap_97 rfl ?_
  obtain ⟨ho14, H⟩ := H
  refine xt_callV (h2 := h) (as := [.int 9, .int r9]) (st := []) dX4_readTrap_99 (mlX4_321 rfl) rfl ho14.1 ⟨by rw [ho14.2]; rfl, by rw [ho14.2]; decide⟩ (by first | decide | (simp [Value.category]; done)) (Nat.le_refl _) H (fun r M15 HH hE => ?_)
  obtain ⟨r16, hr, H⟩ := HH hE
  subst hr
  have ho1 := ok_E ho1 hE
  show T _ _ _ _ [.int r16] _ _
  exact xt_ireturn dX4_readTrap_102 rfl H
def DX4_readTrap_50 (h : Nat) (x0 : Nat) (x1 : Int32) (x2 : Int64) (M : Mem) (Q : Option Value → Mem → Prop) : Prop :=
  ok M x0 6 ∧ ∃ b2 : Nat, mR M x0 0 = some b2 ∧ ok M b2 9 ∧ E h mdX7_fail [.ref b2, .int 3] M (fun r M4 => mE M M4 → r = none ∧ DX4_readTrap_58 h x0 x1 x2 M4 Q)
set_option maxRecDepth 20000 in
set_option maxHeartbeats 2000000 in
theorem VX4_readTrap_50 {h : Nat} {x0 : Nat} {x1 : Int32} {x2 : Int64} {M : Mem} {Q : Option Value → Mem → Prop} (H : DX4_readTrap_50 h x0 x1 x2 M Q) : T (h + 1) mdX4_readTrap 50 [(0, .ref x0), (1, .int x1), (2, .long x2)] [] M Q := by
  unfold DX4_readTrap_50 at H
  refine xt_aload_n (j := 0) dX4_readTrap_50 rfl rfl ?_
  obtain ⟨ho1, H⟩ := H
  obtain ⟨b2, hb, H⟩ := H
  refine xt_getR dX4_readTrap_51 (flX4_14 rfl) ft_6_0 ho1.1 ho1.2 hb ?_
  refine xt_iconst (v := 3) dX4_readTrap_54 (by decide) ?_
  obtain ⟨ho3, H⟩ := H
  refine xt_callV (h2 := h) (as := [.int 3]) (st := []) dX4_readTrap_55 (mlX4_69 rfl) rfl ho3.1 ⟨by rw [ho3.2]; rfl, by rw [ho3.2]; decide⟩ (by first | decide | (simp [Value.category]; done)) (Nat.le_refl _) H (fun r M4 HH hE => ?_)
  obtain ⟨hr, H⟩ := HH hE
  subst hr
  have ho1 := ok_E ho1 hE
  show T _ _ _ _ [] _ _
  exact xt_sub [0, 1, 2] rfl (VX4_readTrap_58 H)
def DX4_readTrap_0 (h : Nat) (x0 : Nat) (x1 : Int32) (M : Mem) (Q : Option Value → Mem → Prop) : Prop :=
  ok M x0 6 ∧ ∃ b2 : Nat, mR M x0 0 = some b2 ∧ ok M b2 9 ∧ ∃ b4 : Nat, mR M x0 0 = some b4 ∧ ok M b4 9 ∧ ((mI M b4 9) = 2 → ∃ b6 : Nat, mR M x0 7 = some b6 ∧ ok M b6 3 ∧ E h mdX1_isTold [.ref b6, .long (mJ M b2 11)] M (fun r M8 => mE M M8 → ∃ r9 : Int32, r = some (.int r9) ∧ (¬ r9 = 0 → DX4_readTrap_50 h x0 x1 (mJ M b2 11) M8 Q) ∧
  (r9 = 0 → E h mdX4_trapsWithin [.ref x0, .long (mJ M b2 11)] M8 (fun r M10 => mE M8 M10 → ∃ r11 : Int32, r = some (.int r11) ∧ (r11 = (-1) → DX4_readTrap_58 h x0 x1 (mJ M b2 11) M10 Q) ∧
  (¬ (r11 = (-1)) → DX4_readTrap_50 h x0 x1 (mJ M b2 11) M10 Q))))) ∧
  (¬ ((mI M b4 9) = 2) → ∃ b12 : Nat, mR M x0 0 = some b12 ∧ ok M b12 9 ∧ E h mdX7_fail [.ref b12, .int 2] M (fun r M14 => mE M M14 → r = none ∧ DX4_readTrap_58 h x0 x1 (mJ M b2 11) M14 Q))
set_option maxRecDepth 20000 in
set_option maxHeartbeats 2000000 in
theorem VX4_readTrap_0 {h : Nat} {x0 : Nat} {x1 : Int32} {M : Mem} {Q : Option Value → Mem → Prop} (H : DX4_readTrap_0 h x0 x1 M Q) : T (h + 1) mdX4_readTrap 0 [(0, .ref x0), (1, .int x1)] [] M Q := by
  unfold DX4_readTrap_0 at H
  refine xt_aload_n (j := 0) dX4_readTrap_0 rfl rfl ?_
  obtain ⟨ho1, H⟩ := H
  obtain ⟨b2, hb, H⟩ := H
  refine xt_getR dX4_readTrap_1 (flX4_14 rfl) ft_6_0 ho1.1 ho1.2 hb ?_
  obtain ⟨ho3, H⟩ := H
  refine xt_getJ dX4_readTrap_4 (flX4_126 rfl) ft_9_11 ho3.1 ho3.2 ?_
  refine xt_lstore_n (lv' := [(2, .long (mJ M b2 11)), (0, .ref x0), (1, .int x1)]) dX4_readTrap_7 rfl (by decide) rfl ?_
  refine xt_aload_n (j := 1) dX4_readTrap_8 rfl rfl ?_
  obtain ⟨b4, hb, H⟩ := H
  refine xt_getR dX4_readTrap_9 (flX4_14 rfl) ft_6_0 ho1.1 ho1.2 hb ?_
  obtain ⟨ho5, H⟩ := H
  refine xt_getI dX4_readTrap_12 (flX4_66 rfl) ft_9_9 ho5.1 ho5.2 ?_
  refine xt_iconst (v := 2) dX4_readTrap_15 (by decide) ?_
  refine xt_icmp_eq (tgt := 30) dX4_readTrap_16 (by decide) (fun hc => ?_) (fun hc => ?_)
  · have H := H.1 hc
    refine xt_aload_n (j := 1) dX4_readTrap_30 rfl rfl ?_
    obtain ⟨b6, hb, H⟩ := H
    refine xt_getR dX4_readTrap_31 (flX4_31 rfl) ft_6_7 ho1.1 ho1.2 hb ?_
    refine xt_lload_n (j := 0) dX4_readTrap_34 rfl rfl ?_
    obtain ⟨ho7, H⟩ := H
    refine xt_callV (h2 := h) (as := [.long (mJ M b2 11)]) (st := []) dX4_readTrap_35 (mlX4_152 rfl) rfl ho7.1 ⟨by rw [ho7.2]; rfl, by rw [ho7.2]; decide⟩ (by first | decide | (simp [Value.category]; done)) (Nat.le_refl _) H (fun r M8 HH hE => ?_)
    obtain ⟨r9, hr, H⟩ := HH hE
    subst hr
    have ho1 := ok_E ho1 hE
    show T _ _ _ _ [.int r9] _ _
    refine xt_if_ne (tgt := 50) dX4_readTrap_38 (by decide) (fun hc => ?_) (fun hc => ?_)
    · have H := H.1 hc
      exact xt_sub [1, 2, 0] rfl (VX4_readTrap_50 H)
    · have H := H.2 hc
      refine xt_aload_n (j := 1) dX4_readTrap_41 rfl rfl ?_
      refine xt_lload_n (j := 0) dX4_readTrap_42 rfl rfl ?_
      refine xt_callV (h2 := h) (as := [.long (mJ M b2 11)]) (st := []) dX4_readTrap_43 (mlX4_309 rfl) rfl ho1.1 ⟨by rw [ho1.2]; rfl, by rw [ho1.2]; decide⟩ (by first | decide | (simp [Value.category]; done)) (Nat.le_refl _) H (fun r M10 HH hE => ?_)
      obtain ⟨r11, hr, H⟩ := HH hE
      subst hr
      have ho1 := ok_E ho1 hE
      show T _ _ _ _ [.int r11] _ _
      refine xt_iconst (v := -1) dX4_readTrap_46 (by decide) ?_
      refine xt_icmp_eq (tgt := 58) dX4_readTrap_47 (by decide) (fun hc => ?_) (fun hc => ?_)
      · have H := H.1 hc
        exact xt_sub [1, 2, 0] rfl (VX4_readTrap_58 H)
      · have H := H.2 hc
        exact xt_sub [1, 2, 0] rfl (VX4_readTrap_50 H)
  · have H := H.2 hc
    refine xt_aload_n (j := 1) dX4_readTrap_19 rfl rfl ?_
    obtain ⟨b12, hb, H⟩ := H
    refine xt_getR dX4_readTrap_20 (flX4_14 rfl) ft_6_0 ho1.1 ho1.2 hb ?_
    refine xt_iconst (v := 2) dX4_readTrap_23 (by decide) ?_
    obtain ⟨ho13, H⟩ := H
    refine xt_callV (h2 := h) (as := [.int 2]) (st := []) dX4_readTrap_24 (mlX4_69 rfl) rfl ho13.1 ⟨by rw [ho13.2]; rfl, by rw [ho13.2]; decide⟩ (by first | decide | (simp [Value.category]; done)) (Nat.le_refl _) H (fun r M14 HH hE => ?_)
    obtain ⟨hr, H⟩ := HH hE
    subst hr
    have ho1 := ok_E ho1 hE
    show T _ _ _ _ [] _ _
    refine xt_goto (tgt := 58) dX4_readTrap_27 (by decide) ?_
    exact xt_sub [1, 2, 0] rfl (VX4_readTrap_58 H)
theorem KX4_readTrap {h : Nat} {x0 : Nat} {x1 : Int32} {M : Mem} {Q : Option Value → Mem → Prop} (H : DX4_readTrap_0 h x0 x1 M Q) : E (h + 1) mdX4_readTrap [.ref x0, .int x1] M Q := E.of (by decide) (Nat.le_of_ble_eq_true rfl) (fun _ _ _ => trivial) (VX4_readTrap_0 H)
def DX4_readTrapped_0 (h : Nat) (x0 : Nat) (x1 : Int64) (x3 : Int32) (M : Mem) (Q : Option Value → Mem → Prop) : Prop :=
  ok M x0 6 ∧ ((mI M x0 3) < 16 → ∃ b2 : Nat, mR M x0 2 = some b2 ∧ ok M b2 23 ∧ vp_in (mI M x0 3) (mL M b2) ∧ ∀ M4 : Mem, M4 = wAJ M b2 (mI M x0 3 : Int32).toNatClampNeg x1 →
  ∀ M5 : Mem, M5 = wI M4 x0 3 ((mI M4 x0 3) + 1) →
  E h mdX4_readSeq [.ref x0, .int x3] M5 (fun r M6 => mE M5 M6 → ∃ r7 : Int32, r = some (.int r7) ∧ ∀ M8 : Mem, M8 = wI M6 x0 3 ((mI M6 x0 3) - 1) →
  Q (some (.int r7)) M8)) ∧
  (¬ ((mI M x0 3) < 16) → ∃ b9 : Nat, mR M x0 0 = some b9 ∧ ok M b9 9 ∧ E h mdX7_fail [.ref b9, .int 6] M (fun r M11 => mE M M11 → r = none ∧ Q (some (.int 0)) M11))
set_option maxRecDepth 20000 in
set_option maxHeartbeats 2000000 in
theorem VX4_readTrapped_0 {h : Nat} {x0 : Nat} {x1 : Int64} {x3 : Int32} {M : Mem} {Q : Option Value → Mem → Prop} (H : DX4_readTrapped_0 h x0 x1 x3 M Q) : T (h + 1) mdX4_readTrapped 0 [(0, .ref x0), (1, .long x1), (3, .int x3)] [] M Q := by
  unfold DX4_readTrapped_0 at H
  refine xt_aload_n (j := 0) dX4_readTrapped_0 rfl rfl ?_
  obtain ⟨ho1, H⟩ := H
  refine xt_getI dX4_readTrapped_1 (flX4_35 rfl) ft_6_3 ho1.1 ho1.2 ?_
  refine xt_bipush (v := 16) dX4_readTrapped_4 (by decide) ?_
  refine xt_icmp_lt (tgt := 20) dX4_readTrapped_6 (by decide) (fun hc => ?_) (fun hc => ?_)
  · have H := H.1 hc
    refine xt_aload_n (j := 0) dX4_readTrapped_20 rfl rfl ?_
    obtain ⟨b2, hb, H⟩ := H
    refine xt_getR dX4_readTrapped_21 (flX4_24 rfl) ft_6_2 ho1.1 ho1.2 hb ?_
    refine xt_aload_n (j := 0) dX4_readTrapped_24 rfl rfl ?_
    refine xt_getI dX4_readTrapped_25 (flX4_35 rfl) ft_6_3 ho1.1 ho1.2 ?_
    refine xt_lload_n (j := 1) dX4_readTrapped_28 rfl rfl ?_
    obtain ⟨ho3, H⟩ := H
    obtain ⟨hi, H⟩ := H
    obtain ⟨M4, eM4⟩ : ∃ z, z = wAJ M b2 (mI M x0 3 : Int32).toNatClampNeg x1 := ⟨_, rfl⟩
    have H := H _ eM4
    refine xt_last dX4_readTrapped_29 ho3.1 ho3.2 hi ?_
    have ho1 : ok M4 x0 6 := by rw [eM4]; exact ho1
    rw [← eM4]
    refine xt_aload_n (j := 0) dX4_readTrapped_30 rfl rfl ?_
    refine xt_dup dX4_readTrapped_31 rfl ?_
    refine xt_getI dX4_readTrapped_32 (flX4_35 rfl) ft_6_3 ho1.1 ho1.2 ?_
    refine xt_iconst (v := 1) dX4_readTrapped_35 (by decide) ?_
    refine xt_iadd dX4_readTrapped_36 ?_
    obtain ⟨M5, eM5⟩ : ∃ z, z = wI M4 x0 3 ((mI M4 x0 3) + 1) := ⟨_, rfl⟩
    have H := H _ eM5
    refine xt_putI dX4_readTrapped_37 (flX4_35 rfl) ty_6_3 rfl ho1.1 ho1.2 ?_
    have ho1 : ok M5 x0 6 := by rw [eM5]; exact ho1
    rw [← eM5]
    refine xt_aload_n (j := 0) dX4_readTrapped_40 rfl rfl ?_
    refine xt_iload_n (j := 2) dX4_readTrapped_41 rfl rfl ?_
    refine xt_callV (h2 := h) (as := [.int x3]) (st := []) dX4_readTrapped_42 (mlX4_59 rfl) rfl ho1.1 ⟨by rw [ho1.2]; rfl, by rw [ho1.2]; decide⟩ (by first | decide | (simp [Value.category]; done)) (Nat.le_refl _) H (fun r M6 HH hE => ?_)
    obtain ⟨r7, hr, H⟩ := HH hE
    subst hr
    have ho1 := ok_E ho1 hE
    show T _ _ _ _ [.int r7] _ _
    refine xt_istore (lv' := [(4, .int r7), (0, .ref x0), (1, .long x1), (3, .int x3)]) dX4_readTrapped_45 (by decide) rfl ?_
    refine xt_aload_n (j := 1) dX4_readTrapped_47 rfl rfl ?_
    refine xt_dup dX4_readTrapped_48 rfl ?_
    refine xt_getI dX4_readTrapped_49 (flX4_35 rfl) ft_6_3 ho1.1 ho1.2 ?_
    refine xt_iconst (v := 1) dX4_readTrapped_52 (by decide) ?_
    refine xt_isub dX4_readTrapped_53 ?_
    obtain ⟨M8, eM8⟩ : ∃ z, z = wI M6 x0 3 ((mI M6 x0 3) - 1) := ⟨_, rfl⟩
    have H := H _ eM8
    refine xt_putI dX4_readTrapped_54 (flX4_35 rfl) ty_6_3 rfl ho1.1 ho1.2 ?_
    have ho1 : ok M8 x0 6 := by rw [eM8]; exact ho1
    rw [← eM8]
    refine xt_iload (j := 0) dX4_readTrapped_57 rfl ?_
    exact xt_ireturn dX4_readTrapped_59 rfl H
  · have H := H.2 hc
    refine xt_aload_n (j := 0) dX4_readTrapped_9 rfl rfl ?_
    obtain ⟨b9, hb, H⟩ := H
    refine xt_getR dX4_readTrapped_10 (flX4_14 rfl) ft_6_0 ho1.1 ho1.2 hb ?_
    refine xt_bipush (v := 6) dX4_readTrapped_13 (by decide) ?_
    obtain ⟨ho10, H⟩ := H
    refine xt_callV (h2 := h) (as := [.int 6]) (st := []) dX4_readTrapped_15 (mlX4_69 rfl) rfl ho10.1 ⟨by rw [ho10.2]; rfl, by rw [ho10.2]; decide⟩ (by first | decide | (simp [Value.category]; done)) (Nat.le_refl _) H (fun r M11 HH hE => ?_)
    obtain ⟨hr, H⟩ := HH hE
    subst hr
    have ho1 := ok_E ho1 hE
    show T _ _ _ _ [] _ _
    refine xt_iconst (v := 0) dX4_readTrapped_18 (by decide) ?_
    exact xt_ireturn dX4_readTrapped_19 rfl H
theorem KX4_readTrapped {h : Nat} {x0 : Nat} {x1 : Int64} {x3 : Int32} {M : Mem} {Q : Option Value → Mem → Prop} (H : DX4_readTrapped_0 h x0 x1 x3 M Q) : E (h + 1) mdX4_readTrapped [.ref x0, .long x1, .int x3] M Q := E.of (by decide) (Nat.le_of_ble_eq_true rfl) (fun _ _ _ => trivial) (VX4_readTrapped_0 H)
def DX4_readBranches_153 (h : Nat) (x0 : Nat) (x3 : Int32) (x4 : Int32) (x5 : Int32) (x6 : Int32) (x7 : Int32) (M : Mem) (Q : Option Value → Mem → Prop) : Prop :=
  ok M x0 6 ∧ ∀ M2 : Mem, M2 = wI M x0 5 (x3 ||| x5) →
  ∀ M3 : Mem, M3 = wI M2 x0 6 (x4 ||| x6) →
  ∃ b4 : Nat, mR M3 x0 0 = some b4 ∧ ok M3 b4 9 ∧ E h mdX7_expect [.ref b4, .int 18] M3 (fun r M6 => mE M3 M6 → r = none ∧ Q (some (.int x7)) M6)
set_option maxRecDepth 20000 in
set_option maxHeartbeats 2000000 in
theorem VX4_readBranches_153 {h : Nat} {x0 : Nat} {x3 : Int32} {x4 : Int32} {x5 : Int32} {x6 : Int32} {x7 : Int32} {M : Mem} {Q : Option Value → Mem → Prop} (H : DX4_readBranches_153 h x0 x3 x4 x5 x6 x7 M Q) : T (h + 1) mdX4_readBranches 153 [(0, .ref x0), (3, .int x3), (4, .int x4), (5, .int x5), (6, .int x6), (7, .int x7)] [] M Q := by
  unfold DX4_readBranches_153 at H
  refine xt_aload_n (j := 0) dX4_readBranches_153 rfl rfl ?_
  refine xt_iload_n (j := 1) dX4_readBranches_154 rfl rfl ?_
  refine xt_iload (j := 3) dX4_readBranches_155 rfl ?_
  refine xt_ior dX4_readBranches_157 ?_
  obtain ⟨ho1, H⟩ := H
  obtain ⟨M2, eM2⟩ : ∃ z, z = wI M x0 5 (x3 ||| x5) := ⟨_, rfl⟩
  have H := H _ eM2
  refine xt_putI dX4_readBranches_158 (flX4_42 rfl) ty_6_5 rfl ho1.1 ho1.2 ?_
  have ho1 : ok M2 x0 6 := by rw [eM2]; exact ho1
  rw [← eM2]
  refine xt_aload_n (j := 0) dX4_readBranches_161 rfl rfl ?_
  refine xt_iload (j := 2) dX4_readBranches_162 rfl ?_
  refine xt_iload (j := 4) dX4_readBranches_164 rfl ?_
  refine xt_ior dX4_readBranches_166 ?_
  obtain ⟨M3, eM3⟩ : ∃ z, z = wI M2 x0 6 (x4 ||| x6) := ⟨_, rfl⟩
  have H := H _ eM3
  refine xt_putI dX4_readBranches_167 (flX4_45 rfl) ty_6_6 rfl ho1.1 ho1.2 ?_
  have ho1 : ok M3 x0 6 := by rw [eM3]; exact ho1
  rw [← eM3]
  refine xt_aload_n (j := 0) dX4_readBranches_170 rfl rfl ?_
  obtain ⟨b4, hb, H⟩ := H
  refine xt_getR dX4_readBranches_171 (flX4_14 rfl) ft_6_0 ho1.1 ho1.2 hb ?_
  refine xt_bipush (v := 18) dX4_readBranches_174 (by decide) ?_
  obtain ⟨ho5, H⟩ := H
  refine xt_callV (h2 := h) (as := [.int 18]) (st := []) dX4_readBranches_176 (mlX4_114 rfl) rfl ho5.1 ⟨by rw [ho5.2]; rfl, by rw [ho5.2]; decide⟩ (by first | decide | (simp [Value.category]; done)) (Nat.le_refl _) H (fun r M6 HH hE => ?_)
  obtain ⟨hr, H⟩ := HH hE
  subst hr
  have ho1 := ok_E ho1 hE
  show T _ _ _ _ [] _ _
  refine xt_iload (j := 5) dX4_readBranches_179 rfl ?_
  exact xt_ireturn dX4_readBranches_181 rfl H
def DX4_readBranches_140 (h : Nat) (x0 : Nat) (x1 : Nat) (x2 : Int32) (x3 : Int32) (x4 : Int32) (x5 : Int32) (x6 : Int32) (x7 : Int32) (x8 : Int32) (M : Mem) (Q : Option Value → Mem → Prop) : Prop :=
  ok M x0 6 ∧ ∃ b2 : Nat, mR M x0 0 = some b2 ∧ ok M b2 9 ∧ E h mdX7_advance [.ref b2] M (fun r M4 => mE M M4 → r = none ∧ T (h + 1) mdX4_readBranches 31 [(0, .ref x0), (1, .ref x1), (2, .int x2), (3, .int x3), (4, .int x4), (5, .int x5), (6, .int x6), (7, .int x7), (8, .int (x8 + 1))] [] M4 Q)
set_option maxRecDepth 20000 in
set_option maxHeartbeats 2000000 in
theorem VX4_readBranches_140 {h : Nat} {x0 : Nat} {x1 : Nat} {x2 : Int32} {x3 : Int32} {x4 : Int32} {x5 : Int32} {x6 : Int32} {x7 : Int32} {x8 : Int32} {M : Mem} {Q : Option Value → Mem → Prop} (H : DX4_readBranches_140 h x0 x1 x2 x3 x4 x5 x6 x7 x8 M Q) : T (h + 1) mdX4_readBranches 140 [(0, .ref x0), (1, .ref x1), (2, .int x2), (3, .int x3), (4, .int x4), (5, .int x5), (6, .int x6), (7, .int x7), (8, .int x8)] [] M Q := by
  unfold DX4_readBranches_140 at H
  refine xt_aload_n (j := 0) dX4_readBranches_140 rfl rfl ?_
  obtain ⟨ho1, H⟩ := H
  obtain ⟨b2, hb, H⟩ := H
  refine xt_getR dX4_readBranches_141 (flX4_14 rfl) ft_6_0 ho1.1 ho1.2 hb ?_
  obtain ⟨ho3, H⟩ := H
  refine xt_callV (h2 := h) (as := []) (st := []) dX4_readBranches_144 (mlX4_117 rfl) rfl ho3.1 ⟨by rw [ho3.2]; rfl, by rw [ho3.2]; decide⟩ (by first | decide | (simp [Value.category]; done)) (Nat.le_refl _) H (fun r M4 HH hE => ?_)
  obtain ⟨hr, H⟩ := HH hE
  subst hr
  have ho1 := ok_E ho1 hE
  show T _ _ _ _ [] _ _
  refine xt_iinc (j := 8) (v := x8 + 1) (lv' := [(8, .int (x8 + 1)), (0, .ref x0), (1, .ref x1), (2, .int x2), (3, .int x3), (4, .int x4), (5, .int x5), (6, .int x6), (7, .int x7)]) dX4_readBranches_147 rfl (by rfl) (by decide) rfl ?_
  refine xt_goto (tgt := 31) dX4_readBranches_150 (by decide) ?_
  exact xt_sub (lv' := [(0, .ref x0), (1, .ref x1), (2, .int x2), (3, .int x3), (4, .int x4), (5, .int x5), (6, .int x6), (7, .int x7), (8, .int (x8 + 1))]) [1, 2, 3, 4, 5, 6, 7, 8, 0] rfl H
def DX4_readBranches_91 (h : Nat) (x0 : Nat) (x1 : Nat) (x2 : Int32) (x3 : Int32) (x4 : Int32) (x5 : Int32) (x6 : Int32) (x7 : Int32) (x8 : Int32) (M : Mem) (Q : Option Value → Mem → Prop) : Prop :=
  ok M x0 6 ∧ ∃ b2 : Nat, mR M x0 0 = some b2 ∧ ok M b2 9 ∧ ((mI M b2 9) = 6 → (¬ x8 = 7 → DX4_readBranches_140 h x0 x1 x2 x3 x4 (x5 ||| (mI M x0 5)) (x6 ||| (mI M x0 6)) x7 x8 M Q) ∧
  (x8 = 7 → ∃ b4 : Nat, mR M x0 0 = some b4 ∧ ok M b4 9 ∧ E h mdX7_fail [.ref b4, .int 6] M (fun r M6 => mE M M6 → r = none ∧ DX4_readBranches_140 h x0 x1 x2 x3 x4 (x5 ||| (mI M x0 5)) (x6 ||| (mI M x0 6)) x7 x8 M6 Q))) ∧
  (¬ ((mI M b2 9) = 6) → DX4_readBranches_153 h x0 x3 x4 (x5 ||| (mI M x0 5)) (x6 ||| (mI M x0 6)) x7 M Q)
set_option maxRecDepth 20000 in
set_option maxHeartbeats 2000000 in
theorem VX4_readBranches_91 {h : Nat} {x0 : Nat} {x1 : Nat} {x2 : Int32} {x3 : Int32} {x4 : Int32} {x5 : Int32} {x6 : Int32} {x7 : Int32} {x8 : Int32} {M : Mem} {Q : Option Value → Mem → Prop} (H : DX4_readBranches_91 h x0 x1 x2 x3 x4 x5 x6 x7 x8 M Q) : T (h + 1) mdX4_readBranches 91 [(0, .ref x0), (1, .ref x1), (2, .int x2), (3, .int x3), (4, .int x4), (5, .int x5), (6, .int x6), (7, .int x7), (8, .int x8)] [] M Q := by
  unfold DX4_readBranches_91 at H
  refine xt_iload (j := 5) dX4_readBranches_91 rfl ?_
  refine xt_aload_n (j := 0) dX4_readBranches_93 rfl rfl ?_
  obtain ⟨ho1, H⟩ := H
  refine xt_getI dX4_readBranches_94 (flX4_42 rfl) ft_6_5 ho1.1 ho1.2 ?_
  refine xt_ior dX4_readBranches_97 ?_
  refine xt_istore (lv' := [(5, .int (x5 ||| (mI M x0 5))), (0, .ref x0), (1, .ref x1), (2, .int x2), (3, .int x3), (4, .int x4), (6, .int x6), (7, .int x7), (8, .int x8)]) dX4_readBranches_98 (by decide) rfl ?_
  refine xt_iload (j := 6) dX4_readBranches_100 rfl ?_
  refine xt_aload_n (j := 1) dX4_readBranches_102 rfl rfl ?_
  refine xt_getI dX4_readBranches_103 (flX4_45 rfl) ft_6_6 ho1.1 ho1.2 ?_
  refine xt_ior dX4_readBranches_106 ?_
  refine xt_istore (lv' := [(6, .int (x6 ||| (mI M x0 6))), (5, .int (x5 ||| (mI M x0 5))), (0, .ref x0), (1, .ref x1), (2, .int x2), (3, .int x3), (4, .int x4), (7, .int x7), (8, .int x8)]) dX4_readBranches_107 (by decide) rfl ?_
  refine xt_aload_n (j := 2) dX4_readBranches_109 rfl rfl ?_
  obtain ⟨b2, hb, H⟩ := H
  refine xt_getR dX4_readBranches_110 (flX4_14 rfl) ft_6_0 ho1.1 ho1.2 hb ?_
  obtain ⟨ho3, H⟩ := H
  refine xt_getI dX4_readBranches_113 (flX4_66 rfl) ft_9_9 ho3.1 ho3.2 ?_
  refine xt_bipush (v := 6) dX4_readBranches_116 (by decide) ?_
  refine xt_icmp_eq (tgt := 124) dX4_readBranches_118 (by decide) (fun hc => ?_) (fun hc => ?_)
  · have H := H.1 hc
    refine xt_iload (j := 8) dX4_readBranches_124 rfl ?_
    refine xt_bipush (v := 7) dX4_readBranches_126 (by decide) ?_
    refine xt_icmp_ne (tgt := 140) dX4_readBranches_128 (by decide) (fun hc => ?_) (fun hc => ?_)
    · have H := H.1 hc
      exact xt_sub [2, 3, 4, 5, 6, 1, 0, 7, 8] rfl (VX4_readBranches_140 H)
    · have H := H.2 hc
      refine xt_aload_n (j := 2) dX4_readBranches_131 rfl rfl ?_
      obtain ⟨b4, hb, H⟩ := H
      refine xt_getR dX4_readBranches_132 (flX4_14 rfl) ft_6_0 ho1.1 ho1.2 hb ?_
      refine xt_bipush (v := 6) dX4_readBranches_135 (by decide) ?_
      obtain ⟨ho5, H⟩ := H
      refine xt_callV (h2 := h) (as := [.int 6]) (st := []) dX4_readBranches_137 (mlX4_69 rfl) rfl ho5.1 ⟨by rw [ho5.2]; rfl, by rw [ho5.2]; decide⟩ (by first | decide | (simp [Value.category]; done)) (Nat.le_refl _) H (fun r M6 HH hE => ?_)
      obtain ⟨hr, H⟩ := HH hE
      subst hr
      have ho1 := ok_E ho1 hE
      show T _ _ _ _ [] _ _
      exact xt_sub [2, 3, 4, 5, 6, 1, 0, 7, 8] rfl (VX4_readBranches_140 H)
  · have H := H.2 hc
    refine xt_goto (tgt := 153) dX4_readBranches_121 (by decide) ?_
    exact xt_sub [2, 5, 6, 1, 0, 7] rfl (VX4_readBranches_153 H)
def DX4_readBranches_85 (h : Nat) (x0 : Nat) (x1 : Nat) (x2 : Int32) (x3 : Int32) (x4 : Int32) (x5 : Int32) (x6 : Int32) (x7 : Int32) (x8 : Int32) (M : Mem) (Q : Option Value → Mem → Prop) : Prop :=
  ok M x1 5 ∧ ∀ M2 : Mem, M2 = wI M x1 2 8 →
  DX4_readBranches_91 h x0 x1 x2 x3 x4 x5 x6 x7 x8 M2 Q
set_option maxRecDepth 20000 in
set_option maxHeartbeats 2000000 in
theorem VX4_readBranches_85 {h : Nat} {x0 : Nat} {x1 : Nat} {x2 : Int32} {x3 : Int32} {x4 : Int32} {x5 : Int32} {x6 : Int32} {x7 : Int32} {x8 : Int32} {M : Mem} {Q : Option Value → Mem → Prop} (H : DX4_readBranches_85 h x0 x1 x2 x3 x4 x5 x6 x7 x8 M Q) : T (h + 1) mdX4_readBranches 85 [(0, .ref x0), (1, .ref x1), (2, .int x2), (3, .int x3), (4, .int x4), (5, .int x5), (6, .int x6), (7, .int x7), (8, .int x8)] [] M Q := by
  unfold DX4_readBranches_85 at H
  refine xt_aload_n (j := 1) dX4_readBranches_85 rfl rfl ?_
  refine xt_bipush (v := 8) dX4_readBranches_86 (by decide) ?_
  obtain ⟨ho1, H⟩ := H
  obtain ⟨M2, eM2⟩ : ∃ z, z = wI M x1 2 8 := ⟨_, rfl⟩
  have H := H _ eM2
  refine xt_putI dX4_readBranches_88 (flX4_98 rfl) ty_5_2 rfl ho1.1 ho1.2 ?_
  have ho1 : ok M2 x1 5 := by rw [eM2]; exact ho1
  rw [← eM2]
  exact xt_sub [0, 1, 2, 3, 4, 5, 6, 7, 8] rfl (VX4_readBranches_91 H)
def DX4_readBranches_31 (h : Nat) (x0 : Nat) (x1 : Nat) (x2 : Int32) (x3 : Int32) (x4 : Int32) (x5 : Int32) (x6 : Int32) (x7 : Int32) (x8 : Int32) (M : Mem) (Q : Option Value → Mem → Prop) : Prop :=
  (8 ≤ x8 → DX4_readBranches_153 h x0 x3 x4 x5 x6 x7 M Q) ∧
  (¬ (8 ≤ x8) → ok M x0 6 ∧ ∀ M2 : Mem, M2 = wI M x0 5 0 →
  ∀ M3 : Mem, M3 = wI M2 x0 6 0 →
  ∃ b4 : Nat, mR M3 x0 1 = some b4 ∧ E h mdX4_readSeq [.ref x0, .int x2] M3 (fun r M5 => mE M3 M5 → ∃ r6 : Int32, r = some (.int r6) ∧ ok M5 b4 10 ∧ E h mdX8_hang [.ref b4, .int x7, .int r6] M5 (fun r M8 => mE M5 M8 → r = none ∧ (¬ ((mI M8 x0 5) &&& (x5 ||| x6)) = 0 → DX4_readBranches_85 h x0 x1 x2 x3 x4 x5 x6 x7 x8 M8 Q) ∧
  (((mI M8 x0 5) &&& (x5 ||| x6)) = 0 → (((mI M8 x0 6) &&& x5) = 0 → DX4_readBranches_91 h x0 x1 x2 x3 x4 x5 x6 x7 x8 M8 Q) ∧
  (¬ (((mI M8 x0 6) &&& x5) = 0) → DX4_readBranches_85 h x0 x1 x2 x3 x4 x5 x6 x7 x8 M8 Q)))))
set_option maxRecDepth 20000 in
set_option maxHeartbeats 2000000 in
theorem VX4_readBranches_31 {h : Nat} {x0 : Nat} {x1 : Nat} {x2 : Int32} {x3 : Int32} {x4 : Int32} {x5 : Int32} {x6 : Int32} {x7 : Int32} {x8 : Int32} {M : Mem} {Q : Option Value → Mem → Prop} (H : DX4_readBranches_31 h x0 x1 x2 x3 x4 x5 x6 x7 x8 M Q) : T (h + 1) mdX4_readBranches 31 [(0, .ref x0), (1, .ref x1), (2, .int x2), (3, .int x3), (4, .int x4), (5, .int x5), (6, .int x6), (7, .int x7), (8, .int x8)] [] M Q := by
  unfold DX4_readBranches_31 at H
  refine xt_iload (j := 8) dX4_readBranches_31 rfl ?_
  refine xt_bipush (v := 8) dX4_readBranches_33 (by decide) ?_
  refine xt_icmp_ge (tgt := 153) dX4_readBranches_35 (by decide) (fun hc => ?_) (fun hc => ?_)
  · have H := H.1 hc
    exact xt_sub [0, 3, 4, 5, 6, 7] rfl (VX4_readBranches_153 H)
  · have H := H.2 hc
    refine xt_aload_n (j := 0) dX4_readBranches_38 rfl rfl ?_
    refine xt_iconst (v := 0) dX4_readBranches_39 (by decide) ?_
    obtain ⟨ho1, H⟩ := H
    obtain ⟨M2, eM2⟩ : ∃ z, z = wI M x0 5 0 := ⟨_, rfl⟩
    have H := H _ eM2
    refine xt_putI dX4_readBranches_40 (flX4_42 rfl) ty_6_5 rfl ho1.1 ho1.2 ?_
    have ho1 : ok M2 x0 6 := by rw [eM2]; exact ho1
    rw [← eM2]
    refine xt_aload_n (j := 0) dX4_readBranches_43 rfl rfl ?_
    refine xt_iconst (v := 0) dX4_readBranches_44 (by decide) ?_
    obtain ⟨M3, eM3⟩ : ∃ z, z = wI M2 x0 6 0 := ⟨_, rfl⟩
    have H := H _ eM3
    refine xt_putI dX4_readBranches_45 (flX4_45 rfl) ty_6_6 rfl ho1.1 ho1.2 ?_
    have ho1 : ok M3 x0 6 := by rw [eM3]; exact ho1
    rw [← eM3]
    refine xt_aload_n (j := 0) dX4_readBranches_48 rfl rfl ?_
    obtain ⟨b4, hb, H⟩ := H
    refine xt_getR dX4_readBranches_49 (flX4_20 rfl) ft_6_1 ho1.1 ho1.2 hb ?_
    refine xt_iload (j := 7) dX4_readBranches_52 rfl ?_
    refine xt_aload_n (j := 0) dX4_readBranches_54 rfl rfl ?_
    refine xt_iload_n (j := 2) dX4_readBranches_55 rfl rfl ?_
    refine xt_callV (h2 := h) (as := [.int x2]) (st := [.int x7, .ref b4]) dX4_readBranches_56 (mlX4_59 rfl) rfl ho1.1 ⟨by rw [ho1.2]; rfl, by rw [ho1.2]; decide⟩ (by first | decide | (simp [Value.category]; done)) (Nat.le_refl _) H (fun r M5 HH hE => ?_)
    obtain ⟨r6, hr, H⟩ := HH hE
    subst hr
    have ho1 := ok_E ho1 hE
    show T _ _ _ _ [.int r6, .int x7, .ref b4] _ _
    obtain ⟨ho7, H⟩ := H
    refine xt_callV (h2 := h) (as := [.int x7, .int r6]) (st := []) dX4_readBranches_59 (mlX4_165 rfl) rfl ho7.1 ⟨by rw [ho7.2]; rfl, by rw [ho7.2]; decide⟩ (by first | decide | (simp [Value.category]; done)) (Nat.le_refl _) H (fun r M8 HH hE => ?_)
    obtain ⟨hr, H⟩ := HH hE
    subst hr
    have ho1 := ok_E ho1 hE
    show T _ _ _ _ [] _ _
    refine xt_aload_n (j := 0) dX4_readBranches_62 rfl rfl ?_
    refine xt_getI dX4_readBranches_63 (flX4_42 rfl) ft_6_5 ho1.1 ho1.2 ?_
    refine xt_iload (j := 5) dX4_readBranches_66 rfl ?_
    refine xt_iload (j := 6) dX4_readBranches_68 rfl ?_
    refine xt_ior dX4_readBranches_70 ?_
    refine xt_iand dX4_readBranches_71 ?_
    refine xt_if_ne (tgt := 85) dX4_readBranches_72 (by decide) (fun hc => ?_) (fun hc => ?_)
    · have H := H.1 hc
      exact xt_sub [0, 1, 2, 3, 4, 5, 6, 7, 8] rfl (VX4_readBranches_85 H)
    · have H := H.2 hc
      refine xt_aload_n (j := 0) dX4_readBranches_75 rfl rfl ?_
      refine xt_getI dX4_readBranches_76 (flX4_45 rfl) ft_6_6 ho1.1 ho1.2 ?_
      refine xt_iload (j := 5) dX4_readBranches_79 rfl ?_
      refine xt_iand dX4_readBranches_81 ?_
      refine xt_if_eq (tgt := 91) dX4_readBranches_82 (by decide) (fun hc => ?_) (fun hc => ?_)
      · have H := H.1 hc
        exact xt_sub [0, 1, 2, 3, 4, 5, 6, 7, 8] rfl (VX4_readBranches_91 H)
      · have H := H.2 hc
        exact xt_sub [0, 1, 2, 3, 4, 5, 6, 7, 8] rfl (VX4_readBranches_85 H)
def DX4_readBranches_0 (h : Nat) (x0 : Nat) (x1 : Nat) (x2 : Int32) (M : Mem) (Q : Option Value → Mem → Prop) : Prop :=
  ok M x0 6 ∧ ∃ b2 : Nat, mR M x0 1 = some b2 ∧ ok M b2 10 ∧ E h mdX8_make [.ref b2, .int 8] M (fun r M4 => mE M M4 → ∃ r5 : Int32, r = some (.int r5) ∧ T (h + 1) mdX4_readBranches 31 [(0, .ref x0), (1, .ref x1), (2, .int x2), (3, .int (mI M x0 5)), (4, .int (mI M x0 6)), (5, .int 0), (6, .int 0), (7, .int r5), (8, .int 0)] [] M4 Q)
set_option maxRecDepth 20000 in
set_option maxHeartbeats 2000000 in
theorem VX4_readBranches_0 {h : Nat} {x0 : Nat} {x1 : Nat} {x2 : Int32} {M : Mem} {Q : Option Value → Mem → Prop} (H : DX4_readBranches_0 h x0 x1 x2 M Q) : T (h + 1) mdX4_readBranches 0 [(0, .ref x0), (1, .ref x1), (2, .int x2)] [] M Q := by
  unfold DX4_readBranches_0 at H
  refine xt_aload_n (j := 0) dX4_readBranches_0 rfl rfl ?_
  obtain ⟨ho1, H⟩ := H
  refine xt_getI dX4_readBranches_1 (flX4_42 rfl) ft_6_5 ho1.1 ho1.2 ?_
  refine xt_istore_n (lv' := [(3, .int (mI M x0 5)), (0, .ref x0), (1, .ref x1), (2, .int x2)]) dX4_readBranches_4 rfl (by decide) rfl ?_
  refine xt_aload_n (j := 1) dX4_readBranches_5 rfl rfl ?_
  refine xt_getI dX4_readBranches_6 (flX4_45 rfl) ft_6_6 ho1.1 ho1.2 ?_
  refine xt_istore (lv' := [(4, .int (mI M x0 6)), (3, .int (mI M x0 5)), (0, .ref x0), (1, .ref x1), (2, .int x2)]) dX4_readBranches_9 (by decide) rfl ?_
  refine xt_iconst (v := 0) dX4_readBranches_11 (by decide) ?_
  refine xt_istore (lv' := [(5, .int 0), (4, .int (mI M x0 6)), (3, .int (mI M x0 5)), (0, .ref x0), (1, .ref x1), (2, .int x2)]) dX4_readBranches_12 (by decide) rfl ?_
  refine xt_iconst (v := 0) dX4_readBranches_14 (by decide) ?_
  refine xt_istore (lv' := [(6, .int 0), (5, .int 0), (4, .int (mI M x0 6)), (3, .int (mI M x0 5)), (0, .ref x0), (1, .ref x1), (2, .int x2)]) dX4_readBranches_15 (by decide) rfl ?_
  refine xt_aload_n (j := 4) dX4_readBranches_17 rfl rfl ?_
  obtain ⟨b2, hb, H⟩ := H
  refine xt_getR dX4_readBranches_18 (flX4_20 rfl) ft_6_1 ho1.1 ho1.2 hb ?_
  refine xt_bipush (v := 8) dX4_readBranches_21 (by decide) ?_
  obtain ⟨ho3, H⟩ := H
  refine xt_callV (h2 := h) (as := [.int 8]) (st := []) dX4_readBranches_23 (mlX4_159 rfl) rfl ho3.1 ⟨by rw [ho3.2]; rfl, by rw [ho3.2]; decide⟩ (by first | decide | (simp [Value.category]; done)) (Nat.le_refl _) H (fun r M4 HH hE => ?_)
  obtain ⟨r5, hr, H⟩ := HH hE
  subst hr
  have ho1 := ok_E ho1 hE
  show T _ _ _ _ [.int r5] _ _
  refine xt_istore (lv' := [(7, .int r5), (6, .int 0), (5, .int 0), (4, .int (mI M x0 6)), (3, .int (mI M x0 5)), (0, .ref x0), (1, .ref x1), (2, .int x2)]) dX4_readBranches_26 (by decide) rfl ?_
  refine xt_iconst (v := 0) dX4_readBranches_28 (by decide) ?_
  refine xt_istore (lv' := [(8, .int 0), (7, .int r5), (6, .int 0), (5, .int 0), (4, .int (mI M x0 6)), (3, .int (mI M x0 5)), (0, .ref x0), (1, .ref x1), (2, .int x2)]) dX4_readBranches_29 (by decide) rfl ?_
  exact xt_sub (lv' := [(0, .ref x0), (1, .ref x1), (2, .int x2), (3, .int (mI M x0 5)), (4, .int (mI M x0 6)), (5, .int 0), (6, .int 0), (7, .int r5), (8, .int 0)]) [6, 7, 8, 5, 4, 3, 2, 1, 0] rfl H
theorem KX4_readBranches {h : Nat} {x0 : Nat} {x1 : Nat} {x2 : Int32} {M : Mem} {Q : Option Value → Mem → Prop} (H : DX4_readBranches_0 h x0 x1 x2 M Q) : E (h + 1) mdX4_readBranches [.ref x0, .ref x1, .int x2] M Q := E.of (by decide) (Nat.le_of_ble_eq_true rfl) (fun _ _ _ => trivial) (VX4_readBranches_0 H)
def DX4_readCondition_48 (h : Nat) (x1 : Int32) (M : Mem) (Q : Option Value → Mem → Prop) : Prop :=
  Q (some (.int x1)) M
set_option maxRecDepth 20000 in
set_option maxHeartbeats 2000000 in
theorem VX4_readCondition_48 {h : Nat} {x1 : Int32} {M : Mem} {Q : Option Value → Mem → Prop} (H : DX4_readCondition_48 h x1 M Q) : T (h + 1) mdX4_readCondition 48 [(1, .int x1)] [] M Q := by
  unfold DX4_readCondition_48 at H
  refine xt_iload_n (j := 0) dX4_readCondition_48 rfl rfl ?_
  exact xt_ireturn dX4_readCondition_49 rfl H
def DX4_readCondition_7 (h : Nat) (x0 : Nat) (x1 : Int32) (x2 : Int32) (M : Mem) (Q : Option Value → Mem → Prop) : Prop :=
  (800 ≤ x2 → DX4_readCondition_48 h x1 M Q) ∧
  (¬ (800 ≤ x2) → ok M x0 6 ∧ ∃ b2 : Nat, mR M x0 0 = some b2 ∧ ok M b2 9 ∧ E h mdX7_accept [.ref b2, .int 60] M (fun r M4 => mE M M4 → ∃ r5 : Int32, r = some (.int r5) ∧ (r5 = 0 → DX4_readCondition_48 h x1 M4 Q) ∧
  (¬ (r5 = 0) → ∃ b6 : Nat, mR M4 x0 7 = some b6 ∧ ok M4 b6 3 ∧ ∃ b8 : Nat, mR M4 b6 7 = some b8 ∧ E h mdX4_readAnd [.ref x0] M4 (fun r M9 => mE M4 M9 → ∃ r10 : Int32, r = some (.int r10) ∧ ok M9 b8 2 ∧ E h mdX0_or [.ref b8, .int x1, .int r10] M9 (fun r M12 => mE M9 M12 → ∃ r13 : Int32, r = some (.int r13) ∧ T (h + 1) mdX4_readCondition 7 [(0, .ref x0), (1, .int r13), (2, .int (x2 + 1))] [] M12 Q)))))
set_option maxRecDepth 20000 in
set_option maxHeartbeats 2000000 in
theorem VX4_readCondition_7 {h : Nat} {x0 : Nat} {x1 : Int32} {x2 : Int32} {M : Mem} {Q : Option Value → Mem → Prop} (H : DX4_readCondition_7 h x0 x1 x2 M Q) : T (h + 1) mdX4_readCondition 7 [(0, .ref x0), (1, .int x1), (2, .int x2)] [] M Q := by
  unfold DX4_readCondition_7 at H
  refine xt_iload_n (j := 2) dX4_readCondition_7 rfl rfl ?_
  refine xt_sipush (v := 800) dX4_readCondition_8 (by decide) ?_
  refine xt_icmp_ge (tgt := 48) dX4_readCondition_11 (by decide) (fun hc => ?_) (fun hc => ?_)
  · have H := H.1 hc
    exact xt_sub [1] rfl (VX4_readCondition_48 H)
  · have H := H.2 hc
    refine xt_aload_n (j := 0) dX4_readCondition_14 rfl rfl ?_
    obtain ⟨ho1, H⟩ := H
    obtain ⟨b2, hb, H⟩ := H
    refine xt_getR dX4_readCondition_15 (flX4_14 rfl) ft_6_0 ho1.1 ho1.2 hb ?_
    refine xt_bipush (v := 60) dX4_readCondition_18 (by decide) ?_
    obtain ⟨ho3, H⟩ := H
    refine xt_callV (h2 := h) (as := [.int 60]) (st := []) dX4_readCondition_20 (mlX4_134 rfl) rfl ho3.1 ⟨by rw [ho3.2]; rfl, by rw [ho3.2]; decide⟩ (by first | decide | (simp [Value.category]; done)) (Nat.le_refl _) H (fun r M4 HH hE => ?_)
    obtain ⟨r5, hr, H⟩ := HH hE
    subst hr
    have ho1 := ok_E ho1 hE
    show T _ _ _ _ [.int r5] _ _
    refine xt_if_eq (tgt := 48) dX4_readCondition_23 (by decide) (fun hc => ?_) (fun hc => ?_)
    · have H := H.1 hc
      exact xt_sub [1] rfl (VX4_readCondition_48 H)
    · have H := H.2 hc
      refine xt_aload_n (j := 0) dX4_readCondition_26 rfl rfl ?_
      obtain ⟨b6, hb, H⟩ := H
      refine xt_getR dX4_readCondition_27 (flX4_31 rfl) ft_6_7 ho1.1 ho1.2 hb ?_
      obtain ⟨ho7, H⟩ := H
      obtain ⟨b8, hb, H⟩ := H
      refine xt_getR dX4_readCondition_30 (flX4_348 rfl) ft_3_7 ho7.1 ho7.2 hb ?_
      refine xt_iload_n (j := 1) dX4_readCondition_33 rfl rfl ?_
      refine xt_aload_n (j := 0) dX4_readCondition_34 rfl rfl ?_
      refine xt_callV (h2 := h) (as := []) (st := [.int x1, .ref b8]) dX4_readCondition_35 (mlX4_345 rfl) rfl ho1.1 ⟨by rw [ho1.2]; rfl, by rw [ho1.2]; decide⟩ (by first | decide | (simp [Value.category]; done)) (Nat.le_refl _) H (fun r M9 HH hE => ?_)
      obtain ⟨r10, hr, H⟩ := HH hE
      subst hr
      have ho1 := ok_E ho1 hE
      show T _ _ _ _ [.int r10, .int x1, .ref b8] _ _
      obtain ⟨ho11, H⟩ := H
      refine xt_callV (h2 := h) (as := [.int x1, .int r10]) (st := []) dX4_readCondition_38 (mlX4_352 rfl) rfl ho11.1 ⟨by rw [ho11.2]; rfl, by rw [ho11.2]; decide⟩ (by first | decide | (simp [Value.category]; done)) (Nat.le_refl _) H (fun r M12 HH hE => ?_)
      obtain ⟨r13, hr, H⟩ := HH hE
      subst hr
      have ho1 := ok_E ho1 hE
      show T _ _ _ _ [.int r13] _ _
      refine xt_istore_n (lv' := [(1, .int r13), (0, .ref x0), (2, .int x2)]) dX4_readCondition_41 rfl (by decide) rfl ?_
      refine xt_iinc (j := 2) (v := x2 + 1) (lv' := [(2, .int (x2 + 1)), (1, .int r13), (0, .ref x0)]) dX4_readCondition_42 rfl (by rfl) (by decide) rfl ?_
      refine xt_goto (tgt := 7) dX4_readCondition_45 (by decide) ?_
      exact xt_sub (lv' := [(0, .ref x0), (1, .int r13), (2, .int (x2 + 1))]) [2, 1, 0] rfl H
def DX4_readCondition_0 (h : Nat) (x0 : Nat) (M : Mem) (Q : Option Value → Mem → Prop) : Prop :=
  ok M x0 6 ∧ E h mdX4_readAnd [.ref x0] M (fun r M2 => mE M M2 → ∃ r3 : Int32, r = some (.int r3) ∧ T (h + 1) mdX4_readCondition 7 [(0, .ref x0), (1, .int r3), (2, .int 0)] [] M2 Q)
set_option maxRecDepth 20000 in
set_option maxHeartbeats 2000000 in
theorem VX4_readCondition_0 {h : Nat} {x0 : Nat} {M : Mem} {Q : Option Value → Mem → Prop} (H : DX4_readCondition_0 h x0 M Q) : T (h + 1) mdX4_readCondition 0 [(0, .ref x0)] [] M Q := by
  unfold DX4_readCondition_0 at H
  refine xt_aload_n (j := 0) dX4_readCondition_0 rfl rfl ?_
  obtain ⟨ho1, H⟩ := H
  refine xt_callV (h2 := h) (as := []) (st := []) dX4_readCondition_1 (mlX4_345 rfl) rfl ho1.1 ⟨by rw [ho1.2]; rfl, by rw [ho1.2]; decide⟩ (by first | decide | (simp [Value.category]; done)) (Nat.le_refl _) H (fun r M2 HH hE => ?_)
  obtain ⟨r3, hr, H⟩ := HH hE
  subst hr
  have ho1 := ok_E ho1 hE
  show T _ _ _ _ [.int r3] _ _
  refine xt_istore_n (lv' := [(1, .int r3), (0, .ref x0)]) dX4_readCondition_4 rfl (by decide) rfl ?_
  refine xt_iconst (v := 0) dX4_readCondition_5 (by decide) ?_
  refine xt_istore_n (lv' := [(2, .int 0), (1, .int r3), (0, .ref x0)]) dX4_readCondition_6 rfl (by decide) rfl ?_
  exact xt_sub (lv' := [(0, .ref x0), (1, .int r3), (2, .int 0)]) [2, 1, 0] rfl H
theorem KX4_readCondition {h : Nat} {x0 : Nat} {M : Mem} {Q : Option Value → Mem → Prop} (H : DX4_readCondition_0 h x0 M Q) : E (h + 1) mdX4_readCondition [.ref x0] M Q := E.of (by decide) (Nat.le_of_ble_eq_true rfl) (fun _ _ _ => trivial) (VX4_readCondition_0 H)
def DX4_readAnd_48 (h : Nat) (x1 : Int32) (M : Mem) (Q : Option Value → Mem → Prop) : Prop :=
  Q (some (.int x1)) M
set_option maxRecDepth 20000 in
set_option maxHeartbeats 2000000 in
theorem VX4_readAnd_48 {h : Nat} {x1 : Int32} {M : Mem} {Q : Option Value → Mem → Prop} (H : DX4_readAnd_48 h x1 M Q) : T (h + 1) mdX4_readAnd 48 [(1, .int x1)] [] M Q := by
  unfold DX4_readAnd_48 at H
  refine xt_iload_n (j := 0) dX4_readAnd_48 rfl rfl ?_
  exact xt_ireturn dX4_readAnd_49 rfl H
def DX4_readAnd_7 (h : Nat) (x0 : Nat) (x1 : Int32) (x2 : Int32) (M : Mem) (Q : Option Value → Mem → Prop) : Prop :=
  (800 ≤ x2 → DX4_readAnd_48 h x1 M Q) ∧
  (¬ (800 ≤ x2) → ok M x0 6 ∧ ∃ b2 : Nat, mR M x0 0 = some b2 ∧ ok M b2 9 ∧ E h mdX7_accept [.ref b2, .int 59] M (fun r M4 => mE M M4 → ∃ r5 : Int32, r = some (.int r5) ∧ (r5 = 0 → DX4_readAnd_48 h x1 M4 Q) ∧
  (¬ (r5 = 0) → ∃ b6 : Nat, mR M4 x0 7 = some b6 ∧ ok M4 b6 3 ∧ ∃ b8 : Nat, mR M4 b6 7 = some b8 ∧ E h mdX4_readNot [.ref x0] M4 (fun r M9 => mE M4 M9 → ∃ r10 : Int32, r = some (.int r10) ∧ ok M9 b8 2 ∧ E h mdX0_and [.ref b8, .int x1, .int r10] M9 (fun r M12 => mE M9 M12 → ∃ r13 : Int32, r = some (.int r13) ∧ T (h + 1) mdX4_readAnd 7 [(0, .ref x0), (1, .int r13), (2, .int (x2 + 1))] [] M12 Q)))))
set_option maxRecDepth 20000 in
set_option maxHeartbeats 2000000 in
theorem VX4_readAnd_7 {h : Nat} {x0 : Nat} {x1 : Int32} {x2 : Int32} {M : Mem} {Q : Option Value → Mem → Prop} (H : DX4_readAnd_7 h x0 x1 x2 M Q) : T (h + 1) mdX4_readAnd 7 [(0, .ref x0), (1, .int x1), (2, .int x2)] [] M Q := by
  unfold DX4_readAnd_7 at H
  refine xt_iload_n (j := 2) dX4_readAnd_7 rfl rfl ?_
  refine xt_sipush (v := 800) dX4_readAnd_8 (by decide) ?_
  refine xt_icmp_ge (tgt := 48) dX4_readAnd_11 (by decide) (fun hc => ?_) (fun hc => ?_)
  · have H := H.1 hc
    exact xt_sub [1] rfl (VX4_readAnd_48 H)
  · have H := H.2 hc
    refine xt_aload_n (j := 0) dX4_readAnd_14 rfl rfl ?_
    obtain ⟨ho1, H⟩ := H
    obtain ⟨b2, hb, H⟩ := H
    refine xt_getR dX4_readAnd_15 (flX4_14 rfl) ft_6_0 ho1.1 ho1.2 hb ?_
    refine xt_bipush (v := 59) dX4_readAnd_18 (by decide) ?_
    obtain ⟨ho3, H⟩ := H
    refine xt_callV (h2 := h) (as := [.int 59]) (st := []) dX4_readAnd_20 (mlX4_134 rfl) rfl ho3.1 ⟨by rw [ho3.2]; rfl, by rw [ho3.2]; decide⟩ (by first | decide | (simp [Value.category]; done)) (Nat.le_refl _) H (fun r M4 HH hE => ?_)
    obtain ⟨r5, hr, H⟩ := HH hE
    subst hr
    have ho1 := ok_E ho1 hE
    show T _ _ _ _ [.int r5] _ _
    refine xt_if_eq (tgt := 48) dX4_readAnd_23 (by decide) (fun hc => ?_) (fun hc => ?_)
    · have H := H.1 hc
      exact xt_sub [1] rfl (VX4_readAnd_48 H)
    · have H := H.2 hc
      refine xt_aload_n (j := 0) dX4_readAnd_26 rfl rfl ?_
      obtain ⟨b6, hb, H⟩ := H
      refine xt_getR dX4_readAnd_27 (flX4_31 rfl) ft_6_7 ho1.1 ho1.2 hb ?_
      obtain ⟨ho7, H⟩ := H
      obtain ⟨b8, hb, H⟩ := H
      refine xt_getR dX4_readAnd_30 (flX4_348 rfl) ft_3_7 ho7.1 ho7.2 hb ?_
      refine xt_iload_n (j := 1) dX4_readAnd_33 rfl rfl ?_
      refine xt_aload_n (j := 0) dX4_readAnd_34 rfl rfl ?_
      refine xt_callV (h2 := h) (as := []) (st := [.int x1, .ref b8]) dX4_readAnd_35 (mlX4_357 rfl) rfl ho1.1 ⟨by rw [ho1.2]; rfl, by rw [ho1.2]; decide⟩ (by first | decide | (simp [Value.category]; done)) (Nat.le_refl _) H (fun r M9 HH hE => ?_)
      obtain ⟨r10, hr, H⟩ := HH hE
      subst hr
      have ho1 := ok_E ho1 hE
      show T _ _ _ _ [.int r10, .int x1, .ref b8] _ _
      obtain ⟨ho11, H⟩ := H
      refine xt_callV (h2 := h) (as := [.int x1, .int r10]) (st := []) dX4_readAnd_38 (mlX4_360 rfl) rfl ho11.1 ⟨by rw [ho11.2]; rfl, by rw [ho11.2]; decide⟩ (by first | decide | (simp [Value.category]; done)) (Nat.le_refl _) H (fun r M12 HH hE => ?_)
      obtain ⟨r13, hr, H⟩ := HH hE
      subst hr
      have ho1 := ok_E ho1 hE
      show T _ _ _ _ [.int r13] _ _
      refine xt_istore_n (lv' := [(1, .int r13), (0, .ref x0), (2, .int x2)]) dX4_readAnd_41 rfl (by decide) rfl ?_
      refine xt_iinc (j := 2) (v := x2 + 1) (lv' := [(2, .int (x2 + 1)), (1, .int r13), (0, .ref x0)]) dX4_readAnd_42 rfl (by rfl) (by decide) rfl ?_
      refine xt_goto (tgt := 7) dX4_readAnd_45 (by decide) ?_
      exact xt_sub (lv' := [(0, .ref x0), (1, .int r13), (2, .int (x2 + 1))]) [2, 1, 0] rfl H
def DX4_readAnd_0 (h : Nat) (x0 : Nat) (M : Mem) (Q : Option Value → Mem → Prop) : Prop :=
  ok M x0 6 ∧ E h mdX4_readNot [.ref x0] M (fun r M2 => mE M M2 → ∃ r3 : Int32, r = some (.int r3) ∧ T (h + 1) mdX4_readAnd 7 [(0, .ref x0), (1, .int r3), (2, .int 0)] [] M2 Q)
set_option maxRecDepth 20000 in
set_option maxHeartbeats 2000000 in
theorem VX4_readAnd_0 {h : Nat} {x0 : Nat} {M : Mem} {Q : Option Value → Mem → Prop} (H : DX4_readAnd_0 h x0 M Q) : T (h + 1) mdX4_readAnd 0 [(0, .ref x0)] [] M Q := by
  unfold DX4_readAnd_0 at H
  refine xt_aload_n (j := 0) dX4_readAnd_0 rfl rfl ?_
  obtain ⟨ho1, H⟩ := H
  refine xt_callV (h2 := h) (as := []) (st := []) dX4_readAnd_1 (mlX4_357 rfl) rfl ho1.1 ⟨by rw [ho1.2]; rfl, by rw [ho1.2]; decide⟩ (by first | decide | (simp [Value.category]; done)) (Nat.le_refl _) H (fun r M2 HH hE => ?_)
  obtain ⟨r3, hr, H⟩ := HH hE
  subst hr
  have ho1 := ok_E ho1 hE
  show T _ _ _ _ [.int r3] _ _
  refine xt_istore_n (lv' := [(1, .int r3), (0, .ref x0)]) dX4_readAnd_4 rfl (by decide) rfl ?_
  refine xt_iconst (v := 0) dX4_readAnd_5 (by decide) ?_
  refine xt_istore_n (lv' := [(2, .int 0), (1, .int r3), (0, .ref x0)]) dX4_readAnd_6 rfl (by decide) rfl ?_
  exact xt_sub (lv' := [(0, .ref x0), (1, .int r3), (2, .int 0)]) [2, 1, 0] rfl H
theorem KX4_readAnd {h : Nat} {x0 : Nat} {M : Mem} {Q : Option Value → Mem → Prop} (H : DX4_readAnd_0 h x0 M Q) : E (h + 1) mdX4_readAnd [.ref x0] M Q := E.of (by decide) (Nat.le_of_ble_eq_true rfl) (fun _ _ _ => trivial) (VX4_readAnd_0 H)
def DX4_readNot_179 (h : Nat) (s0 : Int32) (M : Mem) (Q : Option Value → Mem → Prop) : Prop :=
  Q (some (.int s0)) M
set_option maxRecDepth 20000 in
set_option maxHeartbeats 2000000 in
theorem VX4_readNot_179 {h : Nat} {s0 : Int32} {M : Mem} {Q : Option Value → Mem → Prop} (H : DX4_readNot_179 h s0 M Q) : T (h + 1) mdX4_readNot 179 [] [.int s0] M Q := by
  unfold DX4_readNot_179 at H
  exact xt_ireturn dX4_readNot_179 rfl H
def DX4_readNot_101 (h : Nat) (x0 : Nat) (s0 : Int32) (M : Mem) (Q : Option Value → Mem → Prop) : Prop :=
  ok M x0 6 ∧ ∃ b2 : Nat, mR M x0 0 = some b2 ∧ ok M b2 9 ∧ E h mdX7_expect [.ref b2, .int 16] M (fun r M4 => mE M M4 → r = none ∧ ∃ b5 : Nat, mR M4 x0 0 = some b5 ∧ ok M4 b5 9 ∧ E h mdX7_closes [.ref b5] M4 (fun r M7 => mE M4 M7 → r = none ∧ Q (some (.int s0)) M7))
set_option maxRecDepth 20000 in
set_option maxHeartbeats 2000000 in
theorem VX4_readNot_101 {h : Nat} {x0 : Nat} {s0 : Int32} {M : Mem} {Q : Option Value → Mem → Prop} (H : DX4_readNot_101 h x0 s0 M Q) : T (h + 1) mdX4_readNot 101 [(0, .ref x0)] [.int s0] M Q := by
  unfold DX4_readNot_101 at H
  refine xt_istore_n (lv' := [(1, .int s0), (0, .ref x0)]) dX4_readNot_101 rfl (by decide) rfl ?_
  refine xt_aload_n (j := 1) dX4_readNot_102 rfl rfl ?_
  obtain ⟨ho1, H⟩ := H
  obtain ⟨b2, hb, H⟩ := H
  refine xt_getR dX4_readNot_103 (flX4_14 rfl) ft_6_0 ho1.1 ho1.2 hb ?_
  refine xt_bipush (v := 16) dX4_readNot_106 (by decide) ?_
  obtain ⟨ho3, H⟩ := H
  refine xt_callV (h2 := h) (as := [.int 16]) (st := []) dX4_readNot_108 (mlX4_114 rfl) rfl ho3.1 ⟨by rw [ho3.2]; rfl, by rw [ho3.2]; decide⟩ (by first | decide | (simp [Value.category]; done)) (Nat.le_refl _) H (fun r M4 HH hE => ?_)
  obtain ⟨hr, H⟩ := HH hE
  subst hr
  have ho1 := ok_E ho1 hE
  show T _ _ _ _ [] _ _
  refine xt_aload_n (j := 1) dX4_readNot_111 rfl rfl ?_
  obtain ⟨b5, hb, H⟩ := H
  refine xt_getR dX4_readNot_112 (flX4_14 rfl) ft_6_0 ho1.1 ho1.2 hb ?_
  obtain ⟨ho6, H⟩ := H
  refine xt_callV (h2 := h) (as := []) (st := []) dX4_readNot_115 (mlX4_207 rfl) rfl ho6.1 ⟨by rw [ho6.2]; rfl, by rw [ho6.2]; decide⟩ (by first | decide | (simp [Value.category]; done)) (Nat.le_refl _) H (fun r M7 HH hE => ?_)
  obtain ⟨hr, H⟩ := HH hE
  subst hr
  have ho1 := ok_E ho1 hE
  show T _ _ _ _ [] _ _
  refine xt_iload_n (j := 0) dX4_readNot_118 rfl rfl ?_
  exact xt_ireturn dX4_readNot_119 rfl H
def DX4_readNot_44 (h : Nat) (x0 : Nat) (s0 : Int32) (M : Mem) (Q : Option Value → Mem → Prop) : Prop :=
  ok M x0 6 ∧ ∃ b2 : Nat, mR M x0 0 = some b2 ∧ ok M b2 9 ∧ E h mdX7_closes [.ref b2] M (fun r M4 => mE M M4 → r = none ∧ E h mdX0_not [.int s0] M4 (fun r M5 => mE M4 M5 → ∃ r6 : Int32, r = some (.int r6) ∧ Q (some (.int r6)) M5))
set_option maxRecDepth 20000 in
set_option maxHeartbeats 2000000 in
theorem VX4_readNot_44 {h : Nat} {x0 : Nat} {s0 : Int32} {M : Mem} {Q : Option Value → Mem → Prop} (H : DX4_readNot_44 h x0 s0 M Q) : T (h + 1) mdX4_readNot 44 [(0, .ref x0)] [.int s0] M Q := by
  unfold DX4_readNot_44 at H
  refine xt_istore_n (lv' := [(1, .int s0), (0, .ref x0)]) dX4_readNot_44 rfl (by decide) rfl ?_
  refine xt_aload_n (j := 1) dX4_readNot_45 rfl rfl ?_
  obtain ⟨ho1, H⟩ := H
  obtain ⟨b2, hb, H⟩ := H
  refine xt_getR dX4_readNot_46 (flX4_14 rfl) ft_6_0 ho1.1 ho1.2 hb ?_
  obtain ⟨ho3, H⟩ := H
  refine xt_callV (h2 := h) (as := []) (st := []) dX4_readNot_49 (mlX4_207 rfl) rfl ho3.1 ⟨by rw [ho3.2]; rfl, by rw [ho3.2]; decide⟩ (by first | decide | (simp [Value.category]; done)) (Nat.le_refl _) H (fun r M4 HH hE => ?_)
  obtain ⟨hr, H⟩ := HH hE
  subst hr
  have ho1 := ok_E ho1 hE
  show T _ _ _ _ [] _ _
  refine xt_iload_n (j := 0) dX4_readNot_52 rfl rfl ?_
  refine xt_callS (h2 := h) (as := [.int s0]) (st := []) dX4_readNot_53 (mlX4_363 rfl) rfl (by first | decide | (simp [Value.category]; done)) (Nat.le_refl _) H (fun r M5 HH hE => ?_)
  obtain ⟨r6, hr, H⟩ := HH hE
  subst hr
  have ho1 := ok_E ho1 hE
  show T _ _ _ _ [.int r6] _ _
  exact xt_ireturn dX4_readNot_56 rfl H
def DX4_readNot_0 (h : Nat) (x0 : Nat) (M : Mem) (Q : Option Value → Mem → Prop) : Prop :=
  ok M x0 6 ∧ ∃ b2 : Nat, mR M x0 0 = some b2 ∧ ok M b2 9 ∧ (¬ (mI M b2 9) = 61 → ∃ b4 : Nat, mR M x0 0 = some b4 ∧ ok M b4 9 ∧ (¬ (mI M b4 9) = 15 → ∃ b6 : Nat, mR M x0 0 = some b6 ∧ ok M b6 9 ∧ E h mdX7_accept [.ref b6, .int 62] M (fun r M8 => mE M M8 → ∃ r9 : Int32, r = some (.int r9) ∧ E h mdX4_toldSignal [.ref x0] M8 (fun r M10 => mE M8 M10 → ∃ r11 : Int32, r = some (.int r11) ∧ ∃ b12 : Nat, mR M10 x0 0 = some b12 ∧ ok M10 b12 9 ∧ E h mdX7_advance [.ref b12] M10 (fun r M14 => mE M10 M14 → r = none ∧ (¬ r11 = (-1) → (r9 = 0 → ∃ b15 : Nat, mR M14 x0 7 = some b15 ∧ ok M14 b15 3 ∧ ∃ b17 : Nat, mR M14 b15 7 = some b17 ∧ ok M14 b17 2 ∧ ∃ b19 : Nat, mR M14 b17 13 = some b19 ∧ ok M14 b19 21 ∧ vp_in r11 (mL M14 b19) ∧ DX4_readNot_179 h (mAI M14 b19 (r11 : Int32).toNatClampNeg) M14 Q) ∧
  (¬ (r9 = 0) → ∃ b21 : Nat, mR M14 x0 7 = some b21 ∧ ok M14 b21 3 ∧ ∃ b23 : Nat, mR M14 b21 7 = some b23 ∧ ok M14 b23 2 ∧ E h mdX0_beforeOf [.ref b23, .int r11] M14 (fun r M25 => mE M14 M25 → ∃ r26 : Int32, r = some (.int r26) ∧ DX4_readNot_179 h r26 M25 Q))) ∧
  (r11 = (-1) → Q (some (.int 0)) M14))))) ∧
  ((mI M b4 9) = 15 → ∃ b27 : Nat, mR M x0 0 = some b27 ∧ ok M b27 9 ∧ E h mdX7_opens [.ref b27] M (fun r M29 => mE M M29 → r = none ∧ ∃ b30 : Nat, mR M29 x0 0 = some b30 ∧ ok M29 b30 9 ∧ E h mdX7_advance [.ref b30] M29 (fun r M32 => mE M29 M32 → r = none ∧ ∃ b33 : Nat, mR M32 x0 0 = some b33 ∧ ok M32 b33 9 ∧ (¬ (mI M32 b33 12) = 0 → DX4_readNot_101 h x0 0 M32 Q) ∧
  ((mI M32 b33 12) = 0 → E h mdX4_readCondition [.ref x0] M32 (fun r M35 => mE M32 M35 → ∃ r36 : Int32, r = some (.int r36) ∧ DX4_readNot_101 h x0 r36 M35 Q)))))) ∧
  ((mI M b2 9) = 61 → ∃ b37 : Nat, mR M x0 0 = some b37 ∧ ok M b37 9 ∧ E h mdX7_opens [.ref b37] M (fun r M39 => mE M M39 → r = none ∧ ∃ b40 : Nat, mR M39 x0 0 = some b40 ∧ ok M39 b40 9 ∧ E h mdX7_advance [.ref b40] M39 (fun r M42 => mE M39 M42 → r = none ∧ ∃ b43 : Nat, mR M42 x0 0 = some b43 ∧ ok M42 b43 9 ∧ (¬ (mI M42 b43 12) = 0 → DX4_readNot_44 h x0 0 M42 Q) ∧
  ((mI M42 b43 12) = 0 → E h mdX4_readNot [.ref x0] M42 (fun r M45 => mE M42 M45 → ∃ r46 : Int32, r = some (.int r46) ∧ DX4_readNot_44 h x0 r46 M45 Q)))))
set_option maxRecDepth 20000 in
set_option maxHeartbeats 2000000 in
theorem VX4_readNot_0 {h : Nat} {x0 : Nat} {M : Mem} {Q : Option Value → Mem → Prop} (H : DX4_readNot_0 h x0 M Q) : T (h + 1) mdX4_readNot 0 [(0, .ref x0)] [] M Q := by
  unfold DX4_readNot_0 at H
  refine xt_aload_n (j := 0) dX4_readNot_0 rfl rfl ?_
  obtain ⟨ho1, H⟩ := H
  obtain ⟨b2, hb, H⟩ := H
  refine xt_getR dX4_readNot_1 (flX4_14 rfl) ft_6_0 ho1.1 ho1.2 hb ?_
  obtain ⟨ho3, H⟩ := H
  refine xt_getI dX4_readNot_4 (flX4_66 rfl) ft_9_9 ho3.1 ho3.2 ?_
  refine xt_bipush (v := 61) dX4_readNot_7 (by decide) ?_
  refine xt_icmp_ne (tgt := 57) dX4_readNot_9 (by decide) (fun hc => ?_) (fun hc => ?_)
  · have H := H.1 hc
    refine xt_aload_n (j := 0) dX4_readNot_57 rfl rfl ?_
    obtain ⟨b4, hb, H⟩ := H
    refine xt_getR dX4_readNot_58 (flX4_14 rfl) ft_6_0 ho1.1 ho1.2 hb ?_
    obtain ⟨ho5, H⟩ := H
    refine xt_getI dX4_readNot_61 (flX4_66 rfl) ft_9_9 ho5.1 ho5.2 ?_
    refine xt_bipush (v := 15) dX4_readNot_64 (by decide) ?_
    refine xt_icmp_ne (tgt := 120) dX4_readNot_66 (by decide) (fun hc => ?_) (fun hc => ?_)
    · have H := H.1 hc
      refine xt_aload_n (j := 0) dX4_readNot_120 rfl rfl ?_
      obtain ⟨b6, hb, H⟩ := H
      refine xt_getR dX4_readNot_121 (flX4_14 rfl) ft_6_0 ho1.1 ho1.2 hb ?_
      refine xt_bipush (v := 62) dX4_readNot_124 (by decide) ?_
      obtain ⟨ho7, H⟩ := H
      refine xt_callV (h2 := h) (as := [.int 62]) (st := []) dX4_readNot_126 (mlX4_134 rfl) rfl ho7.1 ⟨by rw [ho7.2]; rfl, by rw [ho7.2]; decide⟩ (by first | decide | (simp [Value.category]; done)) (Nat.le_refl _) H (fun r M8 HH hE => ?_)
      obtain ⟨r9, hr, H⟩ := HH hE
      subst hr
      have ho1 := ok_E ho1 hE
      show T _ _ _ _ [.int r9] _ _
      refine xt_istore_n (lv' := [(1, .int r9), (0, .ref x0)]) dX4_readNot_129 rfl (by decide) rfl ?_
      refine xt_aload_n (j := 1) dX4_readNot_130 rfl rfl ?_
      refine xt_callV (h2 := h) (as := []) (st := []) dX4_readNot_131 (mlX4_300 rfl) rfl ho1.1 ⟨by rw [ho1.2]; rfl, by rw [ho1.2]; decide⟩ (by first | decide | (simp [Value.category]; done)) (Nat.le_refl _) H (fun r M10 HH hE => ?_)
      obtain ⟨r11, hr, H⟩ := HH hE
      subst hr
      have ho1 := ok_E ho1 hE
      show T _ _ _ _ [.int r11] _ _
      refine xt_istore_n (lv' := [(2, .int r11), (1, .int r9), (0, .ref x0)]) dX4_readNot_134 rfl (by decide) rfl ?_
      refine xt_aload_n (j := 2) dX4_readNot_135 rfl rfl ?_
      obtain ⟨b12, hb, H⟩ := H
      refine xt_getR dX4_readNot_136 (flX4_14 rfl) ft_6_0 ho1.1 ho1.2 hb ?_
      obtain ⟨ho13, H⟩ := H
      refine xt_callV (h2 := h) (as := []) (st := []) dX4_readNot_139 (mlX4_117 rfl) rfl ho13.1 ⟨by rw [ho13.2]; rfl, by rw [ho13.2]; decide⟩ (by first | decide | (simp [Value.category]; done)) (Nat.le_refl _) H (fun r M14 HH hE => ?_)
      obtain ⟨hr, H⟩ := HH hE
      subst hr
      have ho1 := ok_E ho1 hE
      show T _ _ _ _ [] _ _
      refine xt_iload_n (j := 0) dX4_readNot_142 rfl rfl ?_
      refine xt_iconst (v := -1) dX4_readNot_143 (by decide) ?_
      refine xt_icmp_ne (tgt := 149) dX4_readNot_144 (by decide) (fun hc => ?_) (fun hc => ?_)
      · have H := H.1 hc
        refine xt_iload_n (j := 1) dX4_readNot_149 rfl rfl ?_
        refine xt_if_eq (tgt := 167) dX4_readNot_150 (by decide) (fun hc => ?_) (fun hc => ?_)
        · have H := H.1 hc
          refine xt_aload_n (j := 2) dX4_readNot_167 rfl rfl ?_
          obtain ⟨b15, hb, H⟩ := H
          refine xt_getR dX4_readNot_168 (flX4_31 rfl) ft_6_7 ho1.1 ho1.2 hb ?_
          obtain ⟨ho16, H⟩ := H
          obtain ⟨b17, hb, H⟩ := H
          refine xt_getR dX4_readNot_171 (flX4_348 rfl) ft_3_7 ho16.1 ho16.2 hb ?_
          obtain ⟨ho18, H⟩ := H
          obtain ⟨b19, hb, H⟩ := H
          refine xt_getR dX4_readNot_174 (flX4_369 rfl) ft_2_13 ho18.1 ho18.2 hb ?_
          refine xt_iload_n (j := 0) dX4_readNot_177 rfl rfl ?_
          obtain ⟨ho20, H⟩ := H
          obtain ⟨hi, H⟩ := H
          refine xt_iald dX4_readNot_178 ho20.1 ho20.2 hi ?_
          exact xt_sub [] rfl (VX4_readNot_179 H)
        · have H := H.2 hc
          refine xt_aload_n (j := 2) dX4_readNot_153 rfl rfl ?_
          obtain ⟨b21, hb, H⟩ := H
          refine xt_getR dX4_readNot_154 (flX4_31 rfl) ft_6_7 ho1.1 ho1.2 hb ?_
          obtain ⟨ho22, H⟩ := H
          obtain ⟨b23, hb, H⟩ := H
          refine xt_getR dX4_readNot_157 (flX4_348 rfl) ft_3_7 ho22.1 ho22.2 hb ?_
          refine xt_iload_n (j := 0) dX4_readNot_160 rfl rfl ?_
          obtain ⟨ho24, H⟩ := H
          refine xt_callV (h2 := h) (as := [.int r11]) (st := []) dX4_readNot_161 (mlX4_366 rfl) rfl ho24.1 ⟨by rw [ho24.2]; rfl, by rw [ho24.2]; decide⟩ (by first | decide | (simp [Value.category]; done)) (Nat.le_refl _) H (fun r M25 HH hE => ?_)
          obtain ⟨r26, hr, H⟩ := HH hE
          subst hr
          have ho1 := ok_E ho1 hE
          show T _ _ _ _ [.int r26] _ _
          refine xt_goto (tgt := 179) dX4_readNot_164 (by decide) ?_
          exact xt_sub [] rfl (VX4_readNot_179 H)
      · have H := H.2 hc
        refine xt_iconst (v := 0) dX4_readNot_147 (by decide) ?_
        exact xt_ireturn dX4_readNot_148 rfl H
    · have H := H.2 hc
      refine xt_aload_n (j := 0) dX4_readNot_69 rfl rfl ?_
      obtain ⟨b27, hb, H⟩ := H
      refine xt_getR dX4_readNot_70 (flX4_14 rfl) ft_6_0 ho1.1 ho1.2 hb ?_
      obtain ⟨ho28, H⟩ := H
      refine xt_callV (h2 := h) (as := []) (st := []) dX4_readNot_73 (mlX4_193 rfl) rfl ho28.1 ⟨by rw [ho28.2]; rfl, by rw [ho28.2]; decide⟩ (by first | decide | (simp [Value.category]; done)) (Nat.le_refl _) H (fun r M29 HH hE => ?_)
      obtain ⟨hr, H⟩ := HH hE
      subst hr
      have ho1 := ok_E ho1 hE
      show T _ _ _ _ [] _ _
      refine xt_aload_n (j := 0) dX4_readNot_76 rfl rfl ?_
      obtain ⟨b30, hb, H⟩ := H
      refine xt_getR dX4_readNot_77 (flX4_14 rfl) ft_6_0 ho1.1 ho1.2 hb ?_
      obtain ⟨ho31, H⟩ := H
      refine xt_callV (h2 := h) (as := []) (st := []) dX4_readNot_80 (mlX4_117 rfl) rfl ho31.1 ⟨by rw [ho31.2]; rfl, by rw [ho31.2]; decide⟩ (by first | decide | (simp [Value.category]; done)) (Nat.le_refl _) H (fun r M32 HH hE => ?_)
      obtain ⟨hr, H⟩ := HH hE
      subst hr
      have ho1 := ok_E ho1 hE
      show T _ _ _ _ [] _ _
      refine xt_aload_n (j := 0) dX4_readNot_83 rfl rfl ?_
      obtain ⟨b33, hb, H⟩ := H
      refine xt_getR dX4_readNot_84 (flX4_14 rfl) ft_6_0 ho1.1 ho1.2 hb ?_
      obtain ⟨ho34, H⟩ := H
      refine xt_getI dX4_readNot_87 (flX4_79 rfl) ft_9_12 ho34.1 ho34.2 ?_
      refine xt_if_ne (tgt := 100) dX4_readNot_90 (by decide) (fun hc => ?_) (fun hc => ?_)
      · have H := H.1 hc
        refine xt_iconst (v := 0) dX4_readNot_100 (by decide) ?_
        exact xt_sub [0] rfl (VX4_readNot_101 H)
      · have H := H.2 hc
        refine xt_aload_n (j := 0) dX4_readNot_93 rfl rfl ?_
        refine xt_callV (h2 := h) (as := []) (st := []) dX4_readNot_94 (mlX4_234 rfl) rfl ho1.1 ⟨by rw [ho1.2]; rfl, by rw [ho1.2]; decide⟩ (by first | decide | (simp [Value.category]; done)) (Nat.le_refl _) H (fun r M35 HH hE => ?_)
        obtain ⟨r36, hr, H⟩ := HH hE
        subst hr
        have ho1 := ok_E ho1 hE
        show T _ _ _ _ [.int r36] _ _
        refine xt_goto (tgt := 101) dX4_readNot_97 (by decide) ?_
        exact xt_sub [0] rfl (VX4_readNot_101 H)
  · have H := H.2 hc
    refine xt_aload_n (j := 0) dX4_readNot_12 rfl rfl ?_
    obtain ⟨b37, hb, H⟩ := H
    refine xt_getR dX4_readNot_13 (flX4_14 rfl) ft_6_0 ho1.1 ho1.2 hb ?_
    obtain ⟨ho38, H⟩ := H
    refine xt_callV (h2 := h) (as := []) (st := []) dX4_readNot_16 (mlX4_193 rfl) rfl ho38.1 ⟨by rw [ho38.2]; rfl, by rw [ho38.2]; decide⟩ (by first | decide | (simp [Value.category]; done)) (Nat.le_refl _) H (fun r M39 HH hE => ?_)
    obtain ⟨hr, H⟩ := HH hE
    subst hr
    have ho1 := ok_E ho1 hE
    show T _ _ _ _ [] _ _
    refine xt_aload_n (j := 0) dX4_readNot_19 rfl rfl ?_
    obtain ⟨b40, hb, H⟩ := H
    refine xt_getR dX4_readNot_20 (flX4_14 rfl) ft_6_0 ho1.1 ho1.2 hb ?_
    obtain ⟨ho41, H⟩ := H
    refine xt_callV (h2 := h) (as := []) (st := []) dX4_readNot_23 (mlX4_117 rfl) rfl ho41.1 ⟨by rw [ho41.2]; rfl, by rw [ho41.2]; decide⟩ (by first | decide | (simp [Value.category]; done)) (Nat.le_refl _) H (fun r M42 HH hE => ?_)
    obtain ⟨hr, H⟩ := HH hE
    subst hr
    have ho1 := ok_E ho1 hE
    show T _ _ _ _ [] _ _
    refine xt_aload_n (j := 0) dX4_readNot_26 rfl rfl ?_
    obtain ⟨b43, hb, H⟩ := H
    refine xt_getR dX4_readNot_27 (flX4_14 rfl) ft_6_0 ho1.1 ho1.2 hb ?_
    obtain ⟨ho44, H⟩ := H
    refine xt_getI dX4_readNot_30 (flX4_79 rfl) ft_9_12 ho44.1 ho44.2 ?_
    refine xt_if_ne (tgt := 43) dX4_readNot_33 (by decide) (fun hc => ?_) (fun hc => ?_)
    · have H := H.1 hc
      refine xt_iconst (v := 0) dX4_readNot_43 (by decide) ?_
      exact xt_sub [0] rfl (VX4_readNot_44 H)
    · have H := H.2 hc
      refine xt_aload_n (j := 0) dX4_readNot_36 rfl rfl ?_
      refine xt_callV (h2 := h) (as := []) (st := []) dX4_readNot_37 (mlX4_357 rfl) rfl ho1.1 ⟨by rw [ho1.2]; rfl, by rw [ho1.2]; decide⟩ (by first | decide | (simp [Value.category]; done)) (Nat.le_refl _) H (fun r M45 HH hE => ?_)
      obtain ⟨r46, hr, H⟩ := HH hE
      subst hr
      have ho1 := ok_E ho1 hE
      show T _ _ _ _ [.int r46] _ _
      refine xt_goto (tgt := 44) dX4_readNot_40 (by decide) ?_
      exact xt_sub [0] rfl (VX4_readNot_44 H)
theorem KX4_readNot {h : Nat} {x0 : Nat} {M : Mem} {Q : Option Value → Mem → Prop} (H : DX4_readNot_0 h x0 M Q) : E (h + 1) mdX4_readNot [.ref x0] M Q := E.of (by decide) (Nat.le_of_ble_eq_true rfl) (fun _ _ _ => trivial) (VX4_readNot_0 H)
def DX4_readComparison_101 (h : Nat) (x0 : Nat) (x1 : Nat) (M : Mem) (Q : Option Value → Mem → Prop) : Prop :=
  ok M x0 6 ∧ ∃ b2 : Nat, mR M x0 0 = some b2 ∧ ok M b2 9 ∧ E h mdX7_advance [.ref b2] M (fun r M4 => mE M M4 → r = none ∧ ∃ b5 : Nat, mR M4 x0 7 = some b5 ∧ ok M4 b5 3 ∧ ∃ b7 : Nat, mR M4 b5 8 = some b7 ∧ ok M4 b7 8 ∧ ok M4 x1 5 ∧ ∀ M10 : Mem, M10 = wI M4 x1 6 (mI M4 b7 1) →
  E h mdX4_readSum [.ref x0] M10 (fun r M11 => mE M10 M11 → r = none ∧ ∃ b12 : Nat, mR M11 x0 7 = some b12 ∧ ok M11 b12 3 ∧ ∃ b14 : Nat, mR M11 b12 8 = some b14 ∧ ok M11 b14 8 ∧ E h mdX6_add [.ref b14, .int 0] M11 (fun r M16 => mE M11 M16 → r = none ∧ ∃ b17 : Nat, mR M16 x0 7 = some b17 ∧ ok M16 b17 3 ∧ ∃ b19 : Nat, mR M16 b17 7 = some b19 ∧ ok M16 b19 2 ∧ E h mdX0_addIf [.ref b19] M16 (fun r M21 => mE M16 M21 → ∃ r22 : Int32, r = some (.int r22) ∧ Q (some (.int r22)) M21))))
set_option maxRecDepth 20000 in
set_option maxHeartbeats 2000000 in
theorem VX4_readComparison_101 {h : Nat} {x0 : Nat} {x1 : Nat} {M : Mem} {Q : Option Value → Mem → Prop} (H : DX4_readComparison_101 h x0 x1 M Q) : T (h + 1) mdX4_readComparison 101 [(0, .ref x0), (1, .ref x1)] [] M Q := by
  unfold DX4_readComparison_101 at H
  refine xt_aload_n (j := 0) dX4_readComparison_101 rfl rfl ?_
  obtain ⟨ho1, H⟩ := H
  obtain ⟨b2, hb, H⟩ := H
  refine xt_getR dX4_readComparison_102 (flX4_14 rfl) ft_6_0 ho1.1 ho1.2 hb ?_
  obtain ⟨ho3, H⟩ := H
  refine xt_callV (h2 := h) (as := []) (st := []) dX4_readComparison_105 (mlX4_117 rfl) rfl ho3.1 ⟨by rw [ho3.2]; rfl, by rw [ho3.2]; decide⟩ (by first | decide | (simp [Value.category]; done)) (Nat.le_refl _) H (fun r M4 HH hE => ?_)
  obtain ⟨hr, H⟩ := HH hE
  subst hr
  have ho1 := ok_E ho1 hE
  show T _ _ _ _ [] _ _
  refine xt_aload_n (j := 1) dX4_readComparison_108 rfl rfl ?_
  refine xt_aload_n (j := 0) dX4_readComparison_109 rfl rfl ?_
  obtain ⟨b5, hb, H⟩ := H
  refine xt_getR dX4_readComparison_110 (flX4_31 rfl) ft_6_7 ho1.1 ho1.2 hb ?_
  obtain ⟨ho6, H⟩ := H
  obtain ⟨b7, hb, H⟩ := H
  refine xt_getR dX4_readComparison_113 (flX4_277 rfl) ft_3_8 ho6.1 ho6.2 hb ?_
  obtain ⟨ho8, H⟩ := H
  refine xt_getI dX4_readComparison_116 (flX4_281 rfl) ft_8_1 ho8.1 ho8.2 ?_
  obtain ⟨ho9, H⟩ := H
  obtain ⟨M10, eM10⟩ : ∃ z, z = wI M4 x1 6 (mI M4 b7 1) := ⟨_, rfl⟩
  have H := H _ eM10
  refine xt_putI dX4_readComparison_119 (flX4_378 rfl) ty_5_6 rfl ho9.1 ho9.2 ?_
  have ho1 : ok M10 x0 6 := by rw [eM10]; exact ho1
  have ho9 : ok M10 x1 5 := by rw [eM10]; exact ho9
  rw [← eM10]
  refine xt_aload_n (j := 0) dX4_readComparison_122 rfl rfl ?_
  refine xt_callV (h2 := h) (as := []) (st := []) dX4_readComparison_123 (mlX4_315 rfl) rfl ho1.1 ⟨by rw [ho1.2]; rfl, by rw [ho1.2]; decide⟩ (by first | decide | (simp [Value.category]; done)) (Nat.le_refl _) H (fun r M11 HH hE => ?_)
  obtain ⟨hr, H⟩ := HH hE
  subst hr
  have ho1 := ok_E ho1 hE
  have ho9 := ok_E ho9 hE
  show T _ _ _ _ [] _ _
  refine xt_aload_n (j := 0) dX4_readComparison_126 rfl rfl ?_
  obtain ⟨b12, hb, H⟩ := H
  refine xt_getR dX4_readComparison_127 (flX4_31 rfl) ft_6_7 ho1.1 ho1.2 hb ?_
  obtain ⟨ho13, H⟩ := H
  obtain ⟨b14, hb, H⟩ := H
  refine xt_getR dX4_readComparison_130 (flX4_277 rfl) ft_3_8 ho13.1 ho13.2 hb ?_
  refine xt_iconst (v := 0) dX4_readComparison_133 (by decide) ?_
  obtain ⟨ho15, H⟩ := H
  refine xt_callV (h2 := h) (as := [.int 0]) (st := []) dX4_readComparison_134 (mlX4_292 rfl) rfl ho15.1 ⟨by rw [ho15.2]; rfl, by rw [ho15.2]; decide⟩ (by first | decide | (simp [Value.category]; done)) (Nat.le_refl _) H (fun r M16 HH hE => ?_)
  obtain ⟨hr, H⟩ := HH hE
  subst hr
  have ho1 := ok_E ho1 hE
  have ho9 := ok_E ho9 hE
  show T _ _ _ _ [] _ _
  refine xt_aload_n (j := 0) dX4_readComparison_137 rfl rfl ?_
  obtain ⟨b17, hb, H⟩ := H
  refine xt_getR dX4_readComparison_138 (flX4_31 rfl) ft_6_7 ho1.1 ho1.2 hb ?_
  obtain ⟨ho18, H⟩ := H
  obtain ⟨b19, hb, H⟩ := H
  refine xt_getR dX4_readComparison_141 (flX4_348 rfl) ft_3_7 ho18.1 ho18.2 hb ?_
  obtain ⟨ho20, H⟩ := H
  refine xt_callV (h2 := h) (as := []) (st := []) dX4_readComparison_144 (mlX4_381 rfl) rfl ho20.1 ⟨by rw [ho20.2]; rfl, by rw [ho20.2]; decide⟩ (by first | decide | (simp [Value.category]; done)) (Nat.le_refl _) H (fun r M21 HH hE => ?_)
  obtain ⟨r22, hr, H⟩ := HH hE
  subst hr
  have ho1 := ok_E ho1 hE
  have ho9 := ok_E ho9 hE
  show T _ _ _ _ [.int r22] _ _
  exact xt_ireturn dX4_readComparison_147 rfl H
def DX4_readComparison_93 (h : Nat) (x0 : Nat) (x1 : Nat) (M : Mem) (Q : Option Value → Mem → Prop) : Prop :=
  ok M x0 6 ∧ ∃ b2 : Nat, mR M x0 0 = some b2 ∧ ok M b2 9 ∧ E h mdX7_fail [.ref b2, .int 2] M (fun r M4 => mE M M4 → r = none ∧ DX4_readComparison_101 h x0 x1 M4 Q)
set_option maxRecDepth 20000 in
set_option maxHeartbeats 2000000 in
theorem VX4_readComparison_93 {h : Nat} {x0 : Nat} {x1 : Nat} {M : Mem} {Q : Option Value → Mem → Prop} (H : DX4_readComparison_93 h x0 x1 M Q) : T (h + 1) mdX4_readComparison 93 [(0, .ref x0), (1, .ref x1)] [] M Q := by
  unfold DX4_readComparison_93 at H
  refine xt_aload_n (j := 0) dX4_readComparison_93 rfl rfl ?_
  obtain ⟨ho1, H⟩ := H
  obtain ⟨b2, hb, H⟩ := H
  refine xt_getR dX4_readComparison_94 (flX4_14 rfl) ft_6_0 ho1.1 ho1.2 hb ?_
  refine xt_iconst (v := 2) dX4_readComparison_97 (by decide) ?_
  obtain ⟨ho3, H⟩ := H
  refine xt_callV (h2 := h) (as := [.int 2]) (st := []) dX4_readComparison_98 (mlX4_69 rfl) rfl ho3.1 ⟨by rw [ho3.2]; rfl, by rw [ho3.2]; decide⟩ (by first | decide | (simp [Value.category]; done)) (Nat.le_refl _) H (fun r M4 HH hE => ?_)
  obtain ⟨hr, H⟩ := HH hE
  subst hr
  have ho1 := ok_E ho1 hE
  show T _ _ _ _ [] _ _
  exact xt_sub [0, 1] rfl (VX4_readComparison_101 H)
def DX4_readComparison_0 (h : Nat) (x0 : Nat) (x1 : Nat) (M : Mem) (Q : Option Value → Mem → Prop) : Prop :=
  ok M x1 5 ∧ ∀ M2 : Mem, M2 = wI M x1 3 3 →
  ok M2 x0 6 ∧ ∃ b4 : Nat, mR M2 x0 7 = some b4 ∧ ok M2 b4 3 ∧ ∀ M6 : Mem, M6 = wI M2 x1 4 (mI M2 b4 14) →
  ∃ b7 : Nat, mR M6 x0 7 = some b7 ∧ ok M6 b7 3 ∧ ∀ M9 : Mem, M9 = wI M6 b7 14 ((mI M6 b7 14) + 1) →
  ∃ b10 : Nat, mR M9 x0 7 = some b10 ∧ ok M9 b10 3 ∧ ∃ b12 : Nat, mR M9 b10 8 = some b12 ∧ ok M9 b12 8 ∧ ∀ M14 : Mem, M14 = wI M9 x1 5 (mI M9 b12 1) →
  E h mdX4_readSum [.ref x0] M14 (fun r M15 => mE M14 M15 → r = none ∧ ∃ b16 : Nat, mR M15 x0 7 = some b16 ∧ ok M15 b16 3 ∧ ∃ b18 : Nat, mR M15 b16 8 = some b18 ∧ ok M15 b18 8 ∧ E h mdX6_add [.ref b18, .int 0] M15 (fun r M20 => mE M15 M20 → r = none ∧ ∃ b21 : Nat, mR M20 x0 0 = some b21 ∧ ok M20 b21 9 ∧ ∀ M23 : Mem, M23 = wI M20 x1 7 (mI M20 b21 9) →
  ∃ b24 : Nat, mR M23 x0 0 = some b24 ∧ ok M23 b24 9 ∧ ((mI M23 b24 9) < 7 → DX4_readComparison_93 h x0 x1 M23 Q) ∧
  (¬ ((mI M23 b24 9) < 7) → ∃ b26 : Nat, mR M23 x0 0 = some b26 ∧ ok M23 b26 9 ∧ ((mI M23 b26 9) ≤ 12 → DX4_readComparison_101 h x0 x1 M23 Q) ∧
  (¬ ((mI M23 b26 9) ≤ 12) → DX4_readComparison_93 h x0 x1 M23 Q))))
set_option maxRecDepth 20000 in
set_option maxHeartbeats 2000000 in
theorem VX4_readComparison_0 {h : Nat} {x0 : Nat} {x1 : Nat} {M : Mem} {Q : Option Value → Mem → Prop} (H : DX4_readComparison_0 h x0 x1 M Q) : T (h + 1) mdX4_readComparison 0 [(0, .ref x0), (1, .ref x1)] [] M Q := by
  unfold DX4_readComparison_0 at H
  refine xt_aload_n (j := 1) dX4_readComparison_0 rfl rfl ?_
  refine xt_iconst (v := 3) dX4_readComparison_1 (by decide) ?_
  obtain ⟨ho1, H⟩ := H
  obtain ⟨M2, eM2⟩ : ∃ z, z = wI M x1 3 3 := ⟨_, rfl⟩
  have H := H _ eM2
  refine xt_putI dX4_readComparison_2 (flX4_271 rfl) ty_5_3 rfl ho1.1 ho1.2 ?_
  have ho1 : ok M2 x1 5 := by rw [eM2]; exact ho1
  rw [← eM2]
  refine xt_aload_n (j := 1) dX4_readComparison_5 rfl rfl ?_
  refine xt_aload_n (j := 0) dX4_readComparison_6 rfl rfl ?_
  obtain ⟨ho3, H⟩ := H
  obtain ⟨b4, hb, H⟩ := H
  refine xt_getR dX4_readComparison_7 (flX4_31 rfl) ft_6_7 ho3.1 ho3.2 hb ?_
  obtain ⟨ho5, H⟩ := H
  refine xt_getI dX4_readComparison_10 (flX4_372 rfl) ft_3_14 ho5.1 ho5.2 ?_
  obtain ⟨M6, eM6⟩ : ∃ z, z = wI M2 x1 4 (mI M2 b4 14) := ⟨_, rfl⟩
  have H := H _ eM6
  refine xt_putI dX4_readComparison_13 (flX4_274 rfl) ty_5_4 rfl ho1.1 ho1.2 ?_
  have ho1 : ok M6 x1 5 := by rw [eM6]; exact ho1
  have ho3 : ok M6 x0 6 := by rw [eM6]; exact ho3
  rw [← eM6]
  refine xt_aload_n (j := 0) dX4_readComparison_16 rfl rfl ?_
  obtain ⟨b7, hb, H⟩ := H
  refine xt_getR dX4_readComparison_17 (flX4_31 rfl) ft_6_7 ho3.1 ho3.2 hb ?_
  refine xt_dup dX4_readComparison_20 rfl ?_
  obtain ⟨ho8, H⟩ := H
  refine xt_getI dX4_readComparison_21 (flX4_372 rfl) ft_3_14 ho8.1 ho8.2 ?_
  refine xt_iconst (v := 1) dX4_readComparison_24 (by decide) ?_
  refine xt_iadd dX4_readComparison_25 ?_
  obtain ⟨M9, eM9⟩ : ∃ z, z = wI M6 b7 14 ((mI M6 b7 14) + 1) := ⟨_, rfl⟩
  have H := H _ eM9
  refine xt_putI dX4_readComparison_26 (flX4_372 rfl) ty_3_14 rfl ho8.1 ho8.2 ?_
  have ho1 : ok M9 x1 5 := by rw [eM9]; exact ho1
  have ho3 : ok M9 x0 6 := by rw [eM9]; exact ho3
  rw [← eM9]
  refine xt_aload_n (j := 1) dX4_readComparison_29 rfl rfl ?_
  refine xt_aload_n (j := 0) dX4_readComparison_30 rfl rfl ?_
  obtain ⟨b10, hb, H⟩ := H
  refine xt_getR dX4_readComparison_31 (flX4_31 rfl) ft_6_7 ho3.1 ho3.2 hb ?_
  obtain ⟨ho11, H⟩ := H
  obtain ⟨b12, hb, H⟩ := H
  refine xt_getR dX4_readComparison_34 (flX4_277 rfl) ft_3_8 ho11.1 ho11.2 hb ?_
  obtain ⟨ho13, H⟩ := H
  refine xt_getI dX4_readComparison_37 (flX4_281 rfl) ft_8_1 ho13.1 ho13.2 ?_
  obtain ⟨M14, eM14⟩ : ∃ z, z = wI M9 x1 5 (mI M9 b12 1) := ⟨_, rfl⟩
  have H := H _ eM14
  refine xt_putI dX4_readComparison_40 (flX4_286 rfl) ty_5_5 rfl ho1.1 ho1.2 ?_
  have ho1 : ok M14 x1 5 := by rw [eM14]; exact ho1
  have ho3 : ok M14 x0 6 := by rw [eM14]; exact ho3
  rw [← eM14]
  refine xt_aload_n (j := 0) dX4_readComparison_43 rfl rfl ?_
  refine xt_callV (h2 := h) (as := []) (st := []) dX4_readComparison_44 (mlX4_315 rfl) rfl ho3.1 ⟨by rw [ho3.2]; rfl, by rw [ho3.2]; decide⟩ (by first | decide | (simp [Value.category]; done)) (Nat.le_refl _) H (fun r M15 HH hE => ?_)
  obtain ⟨hr, H⟩ := HH hE
  subst hr
  have ho1 := ok_E ho1 hE
  have ho3 := ok_E ho3 hE
  show T _ _ _ _ [] _ _
  refine xt_aload_n (j := 0) dX4_readComparison_47 rfl rfl ?_
  obtain ⟨b16, hb, H⟩ := H
  refine xt_getR dX4_readComparison_48 (flX4_31 rfl) ft_6_7 ho3.1 ho3.2 hb ?_
  obtain ⟨ho17, H⟩ := H
  obtain ⟨b18, hb, H⟩ := H
  refine xt_getR dX4_readComparison_51 (flX4_277 rfl) ft_3_8 ho17.1 ho17.2 hb ?_
  refine xt_iconst (v := 0) dX4_readComparison_54 (by decide) ?_
  obtain ⟨ho19, H⟩ := H
  refine xt_callV (h2 := h) (as := [.int 0]) (st := []) dX4_readComparison_55 (mlX4_292 rfl) rfl ho19.1 ⟨by rw [ho19.2]; rfl, by rw [ho19.2]; decide⟩ (by first | decide | (simp [Value.category]; done)) (Nat.le_refl _) H (fun r M20 HH hE => ?_)
  obtain ⟨hr, H⟩ := HH hE
  subst hr
  have ho1 := ok_E ho1 hE
  have ho3 := ok_E ho3 hE
  show T _ _ _ _ [] _ _
  refine xt_aload_n (j := 1) dX4_readComparison_58 rfl rfl ?_
  refine xt_aload_n (j := 0) dX4_readComparison_59 rfl rfl ?_
  obtain ⟨b21, hb, H⟩ := H
  refine xt_getR dX4_readComparison_60 (flX4_14 rfl) ft_6_0 ho3.1 ho3.2 hb ?_
  obtain ⟨ho22, H⟩ := H
  refine xt_getI dX4_readComparison_63 (flX4_66 rfl) ft_9_9 ho22.1 ho22.2 ?_
  obtain ⟨M23, eM23⟩ : ∃ z, z = wI M20 x1 7 (mI M20 b21 9) := ⟨_, rfl⟩
  have H := H _ eM23
  refine xt_putI dX4_readComparison_66 (flX4_375 rfl) ty_5_7 rfl ho1.1 ho1.2 ?_
  have ho1 : ok M23 x1 5 := by rw [eM23]; exact ho1
  have ho3 : ok M23 x0 6 := by rw [eM23]; exact ho3
  rw [← eM23]
  refine xt_aload_n (j := 0) dX4_readComparison_69 rfl rfl ?_
  obtain ⟨b24, hb, H⟩ := H
  refine xt_getR dX4_readComparison_70 (flX4_14 rfl) ft_6_0 ho3.1 ho3.2 hb ?_
  obtain ⟨ho25, H⟩ := H
  refine xt_getI dX4_readComparison_73 (flX4_66 rfl) ft_9_9 ho25.1 ho25.2 ?_
  refine xt_bipush (v := 7) dX4_readComparison_76 (by decide) ?_
  refine xt_icmp_lt (tgt := 93) dX4_readComparison_78 (by decide) (fun hc => ?_) (fun hc => ?_)
  · have H := H.1 hc
    exact xt_sub [0, 1] rfl (VX4_readComparison_93 H)
  · have H := H.2 hc
    refine xt_aload_n (j := 0) dX4_readComparison_81 rfl rfl ?_
    obtain ⟨b26, hb, H⟩ := H
    refine xt_getR dX4_readComparison_82 (flX4_14 rfl) ft_6_0 ho3.1 ho3.2 hb ?_
    obtain ⟨ho27, H⟩ := H
    refine xt_getI dX4_readComparison_85 (flX4_66 rfl) ft_9_9 ho27.1 ho27.2 ?_
    refine xt_bipush (v := 12) dX4_readComparison_88 (by decide) ?_
    refine xt_icmp_le (tgt := 101) dX4_readComparison_90 (by decide) (fun hc => ?_) (fun hc => ?_)
    · have H := H.1 hc
      exact xt_sub [0, 1] rfl (VX4_readComparison_101 H)
    · have H := H.2 hc
      exact xt_sub [0, 1] rfl (VX4_readComparison_93 H)
theorem KX4_readComparison {h : Nat} {x0 : Nat} {x1 : Nat} {M : Mem} {Q : Option Value → Mem → Prop} (H : DX4_readComparison_0 h x0 x1 M Q) : E (h + 1) mdX4_readComparison [.ref x0, .ref x1] M Q := E.of (by decide) (Nat.le_of_ble_eq_true rfl) (fun _ _ _ => trivial) (VX4_readComparison_0 H)
def DX4_readInBrackets_28 (h : Nat) (x0 : Nat) (M : Mem) (Q : Option Value → Mem → Prop) : Prop :=
  ok M x0 6 ∧ ∃ b2 : Nat, mR M x0 0 = some b2 ∧ ok M b2 9 ∧ E h mdX7_expect [.ref b2, .int 16] M (fun r M4 => mE M M4 → r = none ∧ ∃ b5 : Nat, mR M4 x0 0 = some b5 ∧ ok M4 b5 9 ∧ E h mdX7_closes [.ref b5] M4 (fun r M7 => mE M4 M7 → r = none ∧ Q none M7))
set_option maxRecDepth 20000 in
set_option maxHeartbeats 2000000 in
theorem VX4_readInBrackets_28 {h : Nat} {x0 : Nat} {M : Mem} {Q : Option Value → Mem → Prop} (H : DX4_readInBrackets_28 h x0 M Q) : T (h + 1) mdX4_readInBrackets 28 [(0, .ref x0)] [] M Q := by
  unfold DX4_readInBrackets_28 at H
  refine xt_aload_n (j := 0) dX4_readInBrackets_28 rfl rfl ?_
  obtain ⟨ho1, H⟩ := H
  obtain ⟨b2, hb, H⟩ := H
  refine xt_getR dX4_readInBrackets_29 (flX4_14 rfl) ft_6_0 ho1.1 ho1.2 hb ?_
  refine xt_bipush (v := 16) dX4_readInBrackets_32 (by decide) ?_
  obtain ⟨ho3, H⟩ := H
  refine xt_callV (h2 := h) (as := [.int 16]) (st := []) dX4_readInBrackets_34 (mlX4_114 rfl) rfl ho3.1 ⟨by rw [ho3.2]; rfl, by rw [ho3.2]; decide⟩ (by first | decide | (simp [Value.category]; done)) (Nat.le_refl _) H (fun r M4 HH hE => ?_)
  obtain ⟨hr, H⟩ := HH hE
  subst hr
  have ho1 := ok_E ho1 hE
  show T _ _ _ _ [] _ _
  refine xt_aload_n (j := 0) dX4_readInBrackets_37 rfl rfl ?_
  obtain ⟨b5, hb, H⟩ := H
  refine xt_getR dX4_readInBrackets_38 (flX4_14 rfl) ft_6_0 ho1.1 ho1.2 hb ?_
  obtain ⟨ho6, H⟩ := H
  refine xt_callV (h2 := h) (as := []) (st := []) dX4_readInBrackets_41 (mlX4_207 rfl) rfl ho6.1 ⟨by rw [ho6.2]; rfl, by rw [ho6.2]; decide⟩ (by first | decide | (simp [Value.category]; done)) (Nat.le_refl _) H (fun r M7 HH hE => ?_)
  obtain ⟨hr, H⟩ := HH hE
  subst hr
  have ho1 := ok_E ho1 hE
  show T _ _ _ _ [] _ _
  exact xt_return dX4_readInBrackets_44 rfl H
def DX4_readInBrackets_0 (h : Nat) (x0 : Nat) (M : Mem) (Q : Option Value → Mem → Prop) : Prop :=
  ok M x0 6 ∧ ∃ b2 : Nat, mR M x0 0 = some b2 ∧ ok M b2 9 ∧ E h mdX7_opens [.ref b2] M (fun r M4 => mE M M4 → r = none ∧ ∃ b5 : Nat, mR M4 x0 0 = some b5 ∧ ok M4 b5 9 ∧ E h mdX7_advance [.ref b5] M4 (fun r M7 => mE M4 M7 → r = none ∧ ∃ b8 : Nat, mR M7 x0 0 = some b8 ∧ ok M7 b8 9 ∧ (¬ (mI M7 b8 12) = 0 → DX4_readInBrackets_28 h x0 M7 Q) ∧
  ((mI M7 b8 12) = 0 → E h mdX4_readSum [.ref x0] M7 (fun r M10 => mE M7 M10 → r = none ∧ DX4_readInBrackets_28 h x0 M10 Q))))
set_option maxRecDepth 20000 in
set_option maxHeartbeats 2000000 in
theorem VX4_readInBrackets_0 {h : Nat} {x0 : Nat} {M : Mem} {Q : Option Value → Mem → Prop} (H : DX4_readInBrackets_0 h x0 M Q) : T (h + 1) mdX4_readInBrackets 0 [(0, .ref x0)] [] M Q := by
  unfold DX4_readInBrackets_0 at H
  refine xt_aload_n (j := 0) dX4_readInBrackets_0 rfl rfl ?_
  obtain ⟨ho1, H⟩ := H
  obtain ⟨b2, hb, H⟩ := H
  refine xt_getR dX4_readInBrackets_1 (flX4_14 rfl) ft_6_0 ho1.1 ho1.2 hb ?_
  obtain ⟨ho3, H⟩ := H
  refine xt_callV (h2 := h) (as := []) (st := []) dX4_readInBrackets_4 (mlX4_193 rfl) rfl ho3.1 ⟨by rw [ho3.2]; rfl, by rw [ho3.2]; decide⟩ (by first | decide | (simp [Value.category]; done)) (Nat.le_refl _) H (fun r M4 HH hE => ?_)
  obtain ⟨hr, H⟩ := HH hE
  subst hr
  have ho1 := ok_E ho1 hE
  show T _ _ _ _ [] _ _
  refine xt_aload_n (j := 0) dX4_readInBrackets_7 rfl rfl ?_
  obtain ⟨b5, hb, H⟩ := H
  refine xt_getR dX4_readInBrackets_8 (flX4_14 rfl) ft_6_0 ho1.1 ho1.2 hb ?_
  obtain ⟨ho6, H⟩ := H
  refine xt_callV (h2 := h) (as := []) (st := []) dX4_readInBrackets_11 (mlX4_117 rfl) rfl ho6.1 ⟨by rw [ho6.2]; rfl, by rw [ho6.2]; decide⟩ (by first | decide | (simp [Value.category]; done)) (Nat.le_refl _) H (fun r M7 HH hE => ?_)
  obtain ⟨hr, H⟩ := HH hE
  subst hr
  have ho1 := ok_E ho1 hE
  show T _ _ _ _ [] _ _
  refine xt_aload_n (j := 0) dX4_readInBrackets_14 rfl rfl ?_
  obtain ⟨b8, hb, H⟩ := H
  refine xt_getR dX4_readInBrackets_15 (flX4_14 rfl) ft_6_0 ho1.1 ho1.2 hb ?_
  obtain ⟨ho9, H⟩ := H
  refine xt_getI dX4_readInBrackets_18 (flX4_79 rfl) ft_9_12 ho9.1 ho9.2 ?_
  refine xt_if_ne (tgt := 28) dX4_readInBrackets_21 (by decide) (fun hc => ?_) (fun hc => ?_)
  · have H := H.1 hc
    exact xt_sub [0] rfl (VX4_readInBrackets_28 H)
  · have H := H.2 hc
    refine xt_aload_n (j := 0) dX4_readInBrackets_24 rfl rfl ?_
    refine xt_callV (h2 := h) (as := []) (st := []) dX4_readInBrackets_25 (mlX4_315 rfl) rfl ho1.1 ⟨by rw [ho1.2]; rfl, by rw [ho1.2]; decide⟩ (by first | decide | (simp [Value.category]; done)) (Nat.le_refl _) H (fun r M10 HH hE => ?_)
    obtain ⟨hr, H⟩ := HH hE
    subst hr
    have ho1 := ok_E ho1 hE
    show T _ _ _ _ [] _ _
    exact xt_sub [0] rfl (VX4_readInBrackets_28 H)
theorem KX4_readInBrackets {h : Nat} {x0 : Nat} {M : Mem} {Q : Option Value → Mem → Prop} (H : DX4_readInBrackets_0 h x0 M Q) : E (h + 1) mdX4_readInBrackets [.ref x0] M Q := E.of (by decide) (Nat.le_of_ble_eq_true rfl) (fun _ _ _ => trivial) (VX4_readInBrackets_0 H)
def DX4_readSum_64 (h : Nat) (x0 : Nat) (x1 : Int32) (s0 : Nat) (s1 : Int32) (M : Mem) (Q : Option Value → Mem → Prop) : Prop :=
  ok M s0 8 ∧ E h mdX6_add [.ref s0, .int s1] M (fun r M2 => mE M M2 → r = none ∧ T (h + 1) mdX4_readSum 6 [(0, .ref x0), (1, .int (x1 + 1))] [] M2 Q)
set_option maxRecDepth 20000 in
set_option maxHeartbeats 2000000 in
theorem VX4_readSum_64 {h : Nat} {x0 : Nat} {x1 : Int32} {s0 : Nat} {s1 : Int32} {M : Mem} {Q : Option Value → Mem → Prop} (H : DX4_readSum_64 h x0 x1 s0 s1 M Q) : T (h + 1) mdX4_readSum 64 [(0, .ref x0), (1, .int x1)] [.int s1, .ref s0] M Q := by
  unfold DX4_readSum_64 at H
  obtain ⟨ho1, H⟩ := H
  refine xt_callV (h2 := h) (as := [.int s1]) (st := []) dX4_readSum_64 (mlX4_292 rfl) rfl ho1.1 ⟨by rw [ho1.2]; rfl, by rw [ho1.2]; decide⟩ (by first | decide | (simp [Value.category]; done)) (Nat.le_refl _) H (fun r M2 HH hE => ?_)
  obtain ⟨hr, H⟩ := HH hE
  subst hr
  show T _ _ _ _ [] _ _
  refine xt_iinc (j := 1) (v := x1 + 1) (lv' := [(1, .int (x1 + 1)), (0, .ref x0)]) dX4_readSum_67 rfl (by rfl) (by decide) rfl ?_
  refine xt_goto (tgt := 6) dX4_readSum_70 (by decide) ?_
  exact xt_sub (lv' := [(0, .ref x0), (1, .int (x1 + 1))]) [1, 0] rfl H
def DX4_readSum_34 (h : Nat) (x0 : Nat) (x1 : Int32) (x2 : Int32) (M : Mem) (Q : Option Value → Mem → Prop) : Prop :=
  ok M x0 6 ∧ ∃ b2 : Nat, mR M x0 0 = some b2 ∧ ok M b2 9 ∧ E h mdX7_advance [.ref b2] M (fun r M4 => mE M M4 → r = none ∧ E h mdX4_readTimes [.ref x0] M4 (fun r M5 => mE M4 M5 → r = none ∧ ∃ b6 : Nat, mR M5 x0 7 = some b6 ∧ ok M5 b6 3 ∧ ∃ b8 : Nat, mR M5 b6 8 = some b8 ∧ (¬ x2 = 20 → DX4_readSum_64 h x0 x1 b8 6 M5 Q) ∧
  (x2 = 20 → DX4_readSum_64 h x0 x1 b8 5 M5 Q)))
set_option maxRecDepth 20000 in
set_option maxHeartbeats 2000000 in
theorem VX4_readSum_34 {h : Nat} {x0 : Nat} {x1 : Int32} {x2 : Int32} {M : Mem} {Q : Option Value → Mem → Prop} (H : DX4_readSum_34 h x0 x1 x2 M Q) : T (h + 1) mdX4_readSum 34 [(0, .ref x0), (1, .int x1), (2, .int x2)] [] M Q := by
  unfold DX4_readSum_34 at H
  refine xt_aload_n (j := 0) dX4_readSum_34 rfl rfl ?_
  obtain ⟨ho1, H⟩ := H
  obtain ⟨b2, hb, H⟩ := H
  refine xt_getR dX4_readSum_35 (flX4_14 rfl) ft_6_0 ho1.1 ho1.2 hb ?_
  obtain ⟨ho3, H⟩ := H
  refine xt_callV (h2 := h) (as := []) (st := []) dX4_readSum_38 (mlX4_117 rfl) rfl ho3.1 ⟨by rw [ho3.2]; rfl, by rw [ho3.2]; decide⟩ (by first | decide | (simp [Value.category]; done)) (Nat.le_refl _) H (fun r M4 HH hE => ?_)
  obtain ⟨hr, H⟩ := HH hE
  subst hr
  have ho1 := ok_E ho1 hE
  show T _ _ _ _ [] _ _
  refine xt_aload_n (j := 0) dX4_readSum_41 rfl rfl ?_
  refine xt_callV (h2 := h) (as := []) (st := []) dX4_readSum_42 (mlX4_384 rfl) rfl ho1.1 ⟨by rw [ho1.2]; rfl, by rw [ho1.2]; decide⟩ (by first | decide | (simp [Value.category]; done)) (Nat.le_refl _) H (fun r M5 HH hE => ?_)
  obtain ⟨hr, H⟩ := HH hE
  subst hr
  have ho1 := ok_E ho1 hE
  show T _ _ _ _ [] _ _
  refine xt_aload_n (j := 0) dX4_readSum_45 rfl rfl ?_
  obtain ⟨b6, hb, H⟩ := H
  refine xt_getR dX4_readSum_46 (flX4_31 rfl) ft_6_7 ho1.1 ho1.2 hb ?_
  obtain ⟨ho7, H⟩ := H
  obtain ⟨b8, hb, H⟩ := H
  refine xt_getR dX4_readSum_49 (flX4_277 rfl) ft_3_8 ho7.1 ho7.2 hb ?_
  refine xt_iload_n (j := 2) dX4_readSum_52 rfl rfl ?_
  refine xt_bipush (v := 20) dX4_readSum_53 (by decide) ?_
  refine xt_icmp_ne (tgt := 62) dX4_readSum_55 (by decide) (fun hc => ?_) (fun hc => ?_)
  · have H := H.1 hc
    refine xt_bipush (v := 6) dX4_readSum_62 (by decide) ?_
    exact xt_sub [0, 1] rfl (VX4_readSum_64 H)
  · have H := H.2 hc
    refine xt_iconst (v := 5) dX4_readSum_58 (by decide) ?_
    refine xt_goto (tgt := 64) dX4_readSum_59 (by decide) ?_
    exact xt_sub [0, 1] rfl (VX4_readSum_64 H)
def DX4_readSum_6 (h : Nat) (x0 : Nat) (x1 : Int32) (M : Mem) (Q : Option Value → Mem → Prop) : Prop :=
  (800 ≤ x1 → Q none M) ∧
  (¬ (800 ≤ x1) → ok M x0 6 ∧ ∃ b2 : Nat, mR M x0 0 = some b2 ∧ ok M b2 9 ∧ ((mI M b2 9) = 20 → DX4_readSum_34 h x0 x1 (mI M b2 9) M Q) ∧
  (¬ ((mI M b2 9) = 20) → ((mI M b2 9) = 21 → DX4_readSum_34 h x0 x1 (mI M b2 9) M Q) ∧
  (¬ ((mI M b2 9) = 21) → Q none M)))
set_option maxRecDepth 20000 in
set_option maxHeartbeats 2000000 in
theorem VX4_readSum_6 {h : Nat} {x0 : Nat} {x1 : Int32} {M : Mem} {Q : Option Value → Mem → Prop} (H : DX4_readSum_6 h x0 x1 M Q) : T (h + 1) mdX4_readSum 6 [(0, .ref x0), (1, .int x1)] [] M Q := by
  unfold DX4_readSum_6 at H
  refine xt_iload_n (j := 1) dX4_readSum_6 rfl rfl ?_
  refine xt_sipush (v := 800) dX4_readSum_7 (by decide) ?_
  refine xt_icmp_ge (tgt := 73) dX4_readSum_10 (by decide) (fun hc => ?_) (fun hc => ?_)
  · have H := H.1 hc
    exact xt_return dX4_readSum_73 rfl H
  · have H := H.2 hc
    refine xt_aload_n (j := 0) dX4_readSum_13 rfl rfl ?_
    obtain ⟨ho1, H⟩ := H
    obtain ⟨b2, hb, H⟩ := H
    refine xt_getR dX4_readSum_14 (flX4_14 rfl) ft_6_0 ho1.1 ho1.2 hb ?_
    obtain ⟨ho3, H⟩ := H
    refine xt_getI dX4_readSum_17 (flX4_66 rfl) ft_9_9 ho3.1 ho3.2 ?_
    refine xt_istore_n (lv' := [(2, .int (mI M b2 9)), (0, .ref x0), (1, .int x1)]) dX4_readSum_20 rfl (by decide) rfl ?_
    refine xt_iload_n (j := 0) dX4_readSum_21 rfl rfl ?_
    refine xt_bipush (v := 20) dX4_readSum_22 (by decide) ?_
    refine xt_icmp_eq (tgt := 34) dX4_readSum_24 (by decide) (fun hc => ?_) (fun hc => ?_)
    · have H := H.1 hc
      exact xt_sub [1, 2, 0] rfl (VX4_readSum_34 H)
    · have H := H.2 hc
      refine xt_iload_n (j := 0) dX4_readSum_27 rfl rfl ?_
      refine xt_bipush (v := 21) dX4_readSum_28 (by decide) ?_
      refine xt_icmp_eq (tgt := 34) dX4_readSum_30 (by decide) (fun hc => ?_) (fun hc => ?_)
      · have H := H.1 hc
        exact xt_sub [1, 2, 0] rfl (VX4_readSum_34 H)
      · have H := H.2 hc
        exact xt_return dX4_readSum_33 rfl H
def DX4_readSum_0 (h : Nat) (x0 : Nat) (M : Mem) (Q : Option Value → Mem → Prop) : Prop :=
  ok M x0 6 ∧ E h mdX4_readTimes [.ref x0] M (fun r M2 => mE M M2 → r = none ∧ T (h + 1) mdX4_readSum 6 [(0, .ref x0), (1, .int 0)] [] M2 Q)
set_option maxRecDepth 20000 in
set_option maxHeartbeats 2000000 in
theorem VX4_readSum_0 {h : Nat} {x0 : Nat} {M : Mem} {Q : Option Value → Mem → Prop} (H : DX4_readSum_0 h x0 M Q) : T (h + 1) mdX4_readSum 0 [(0, .ref x0)] [] M Q := by
  unfold DX4_readSum_0 at H
  refine xt_aload_n (j := 0) dX4_readSum_0 rfl rfl ?_
  obtain ⟨ho1, H⟩ := H
  refine xt_callV (h2 := h) (as := []) (st := []) dX4_readSum_1 (mlX4_384 rfl) rfl ho1.1 ⟨by rw [ho1.2]; rfl, by rw [ho1.2]; decide⟩ (by first | decide | (simp [Value.category]; done)) (Nat.le_refl _) H (fun r M2 HH hE => ?_)
  obtain ⟨hr, H⟩ := HH hE
  subst hr
  have ho1 := ok_E ho1 hE
  show T _ _ _ _ [] _ _
  refine xt_iconst (v := 0) dX4_readSum_4 (by decide) ?_
  refine xt_istore_n (lv' := [(1, .int 0), (0, .ref x0)]) dX4_readSum_5 rfl (by decide) rfl ?_
  exact xt_sub (lv' := [(0, .ref x0), (1, .int 0)]) [1, 0] rfl H
theorem KX4_readSum {h : Nat} {x0 : Nat} {M : Mem} {Q : Option Value → Mem → Prop} (H : DX4_readSum_0 h x0 M Q) : E (h + 1) mdX4_readSum [.ref x0] M Q := E.of (by decide) (Nat.le_of_ble_eq_true rfl) (fun _ _ _ => trivial) (VX4_readSum_0 H)
def DX4_readTimes_40 (h : Nat) (x0 : Nat) (x1 : Int32) (x2 : Int32) (M : Mem) (Q : Option Value → Mem → Prop) : Prop :=
  ok M x0 6 ∧ ∃ b2 : Nat, mR M x0 0 = some b2 ∧ ok M b2 9 ∧ E h mdX7_advance [.ref b2] M (fun r M4 => mE M M4 → r = none ∧ E h mdX4_readOne [.ref x0] M4 (fun r M5 => mE M4 M5 → r = none ∧ ∃ b6 : Nat, mR M5 x0 7 = some b6 ∧ ok M5 b6 3 ∧ ∃ b8 : Nat, mR M5 b6 8 = some b8 ∧ ok M5 b8 8 ∧ E h mdX6_add [.ref b8, .int ((7 + x2) - 22)] M5 (fun r M10 => mE M5 M10 → r = none ∧ T (h + 1) mdX4_readTimes 6 [(0, .ref x0), (1, .int (x1 + 1))] [] M10 Q)))
set_option maxRecDepth 20000 in
set_option maxHeartbeats 2000000 in
theorem VX4_readTimes_40 {h : Nat} {x0 : Nat} {x1 : Int32} {x2 : Int32} {M : Mem} {Q : Option Value → Mem → Prop} (H : DX4_readTimes_40 h x0 x1 x2 M Q) : T (h + 1) mdX4_readTimes 40 [(0, .ref x0), (1, .int x1), (2, .int x2)] [] M Q := by
  unfold DX4_readTimes_40 at H
  refine xt_aload_n (j := 0) dX4_readTimes_40 rfl rfl ?_
  obtain ⟨ho1, H⟩ := H
  obtain ⟨b2, hb, H⟩ := H
  refine xt_getR dX4_readTimes_41 (flX4_14 rfl) ft_6_0 ho1.1 ho1.2 hb ?_
  obtain ⟨ho3, H⟩ := H
  refine xt_callV (h2 := h) (as := []) (st := []) dX4_readTimes_44 (mlX4_117 rfl) rfl ho3.1 ⟨by rw [ho3.2]; rfl, by rw [ho3.2]; decide⟩ (by first | decide | (simp [Value.category]; done)) (Nat.le_refl _) H (fun r M4 HH hE => ?_)
  obtain ⟨hr, H⟩ := HH hE
  subst hr
  have ho1 := ok_E ho1 hE
  show T _ _ _ _ [] _ _
  refine xt_aload_n (j := 0) dX4_readTimes_47 rfl rfl ?_
  refine xt_callV (h2 := h) (as := []) (st := []) dX4_readTimes_48 (mlX4_387 rfl) rfl ho1.1 ⟨by rw [ho1.2]; rfl, by rw [ho1.2]; decide⟩ (by first | decide | (simp [Value.category]; done)) (Nat.le_refl _) H (fun r M5 HH hE => ?_)
  obtain ⟨hr, H⟩ := HH hE
  subst hr
  have ho1 := ok_E ho1 hE
  show T _ _ _ _ [] _ _
  refine xt_aload_n (j := 0) dX4_readTimes_51 rfl rfl ?_
  obtain ⟨b6, hb, H⟩ := H
  refine xt_getR dX4_readTimes_52 (flX4_31 rfl) ft_6_7 ho1.1 ho1.2 hb ?_
  obtain ⟨ho7, H⟩ := H
  obtain ⟨b8, hb, H⟩ := H
  refine xt_getR dX4_readTimes_55 (flX4_277 rfl) ft_3_8 ho7.1 ho7.2 hb ?_
  refine xt_bipush (v := 7) dX4_readTimes_58 (by decide) ?_
  refine xt_iload_n (j := 2) dX4_readTimes_60 rfl rfl ?_
  refine xt_iadd dX4_readTimes_61 ?_
  refine xt_bipush (v := 22) dX4_readTimes_62 (by decide) ?_
  refine xt_isub dX4_readTimes_64 ?_
  obtain ⟨ho9, H⟩ := H
  refine xt_callV (h2 := h) (as := [.int ((7 + x2) - 22)]) (st := []) dX4_readTimes_65 (mlX4_292 rfl) rfl ho9.1 ⟨by rw [ho9.2]; rfl, by rw [ho9.2]; decide⟩ (by first | decide | (simp [Value.category]; done)) (Nat.le_refl _) H (fun r M10 HH hE => ?_)
  obtain ⟨hr, H⟩ := HH hE
  subst hr
  have ho1 := ok_E ho1 hE
  show T _ _ _ _ [] _ _
  refine xt_iinc (j := 1) (v := x1 + 1) (lv' := [(1, .int (x1 + 1)), (0, .ref x0), (2, .int x2)]) dX4_readTimes_68 rfl (by rfl) (by decide) rfl ?_
  refine xt_goto (tgt := 6) dX4_readTimes_71 (by decide) ?_
  exact xt_sub (lv' := [(0, .ref x0), (1, .int (x1 + 1))]) [1, 0] rfl H
def DX4_readTimes_6 (h : Nat) (x0 : Nat) (x1 : Int32) (M : Mem) (Q : Option Value → Mem → Prop) : Prop :=
  (800 ≤ x1 → Q none M) ∧
  (¬ (800 ≤ x1) → ok M x0 6 ∧ ∃ b2 : Nat, mR M x0 0 = some b2 ∧ ok M b2 9 ∧ ((mI M b2 9) = 22 → DX4_readTimes_40 h x0 x1 (mI M b2 9) M Q) ∧
  (¬ ((mI M b2 9) = 22) → ((mI M b2 9) = 23 → DX4_readTimes_40 h x0 x1 (mI M b2 9) M Q) ∧
  (¬ ((mI M b2 9) = 23) → ((mI M b2 9) = 24 → DX4_readTimes_40 h x0 x1 (mI M b2 9) M Q) ∧
  (¬ ((mI M b2 9) = 24) → Q none M))))
set_option maxRecDepth 20000 in
set_option maxHeartbeats 2000000 in
theorem VX4_readTimes_6 {h : Nat} {x0 : Nat} {x1 : Int32} {M : Mem} {Q : Option Value → Mem → Prop} (H : DX4_readTimes_6 h x0 x1 M Q) : T (h + 1) mdX4_readTimes 6 [(0, .ref x0), (1, .int x1)] [] M Q := by
  unfold DX4_readTimes_6 at H
  refine xt_iload_n (j := 1) dX4_readTimes_6 rfl rfl ?_
  refine xt_sipush (v := 800) dX4_readTimes_7 (by decide) ?_
  refine xt_icmp_ge (tgt := 74) dX4_readTimes_10 (by decide) (fun hc => ?_) (fun hc => ?_)
  · have H := H.1 hc
    exact xt_return dX4_readTimes_74 rfl H
  · have H := H.2 hc
    refine xt_aload_n (j := 0) dX4_readTimes_13 rfl rfl ?_
    obtain ⟨ho1, H⟩ := H
    obtain ⟨b2, hb, H⟩ := H
    refine xt_getR dX4_readTimes_14 (flX4_14 rfl) ft_6_0 ho1.1 ho1.2 hb ?_
    obtain ⟨ho3, H⟩ := H
    refine xt_getI dX4_readTimes_17 (flX4_66 rfl) ft_9_9 ho3.1 ho3.2 ?_
    refine xt_istore_n (lv' := [(2, .int (mI M b2 9)), (0, .ref x0), (1, .int x1)]) dX4_readTimes_20 rfl (by decide) rfl ?_
    refine xt_iload_n (j := 0) dX4_readTimes_21 rfl rfl ?_
    refine xt_bipush (v := 22) dX4_readTimes_22 (by decide) ?_
    refine xt_icmp_eq (tgt := 40) dX4_readTimes_24 (by decide) (fun hc => ?_) (fun hc => ?_)
    · have H := H.1 hc
      exact xt_sub [1, 2, 0] rfl (VX4_readTimes_40 H)
    · have H := H.2 hc
      refine xt_iload_n (j := 0) dX4_readTimes_27 rfl rfl ?_
      refine xt_bipush (v := 23) dX4_readTimes_28 (by decide) ?_
      refine xt_icmp_eq (tgt := 40) dX4_readTimes_30 (by decide) (fun hc => ?_) (fun hc => ?_)
      · have H := H.1 hc
        exact xt_sub [1, 2, 0] rfl (VX4_readTimes_40 H)
      · have H := H.2 hc
        refine xt_iload_n (j := 0) dX4_readTimes_33 rfl rfl ?_
        refine xt_bipush (v := 24) dX4_readTimes_34 (by decide) ?_
        refine xt_icmp_eq (tgt := 40) dX4_readTimes_36 (by decide) (fun hc => ?_) (fun hc => ?_)
        · have H := H.1 hc
          exact xt_sub [1, 2, 0] rfl (VX4_readTimes_40 H)
        · have H := H.2 hc
          exact xt_return dX4_readTimes_39 rfl H
def DX4_readTimes_0 (h : Nat) (x0 : Nat) (M : Mem) (Q : Option Value → Mem → Prop) : Prop :=
  ok M x0 6 ∧ E h mdX4_readOne [.ref x0] M (fun r M2 => mE M M2 → r = none ∧ T (h + 1) mdX4_readTimes 6 [(0, .ref x0), (1, .int 0)] [] M2 Q)
set_option maxRecDepth 20000 in
set_option maxHeartbeats 2000000 in
theorem VX4_readTimes_0 {h : Nat} {x0 : Nat} {M : Mem} {Q : Option Value → Mem → Prop} (H : DX4_readTimes_0 h x0 M Q) : T (h + 1) mdX4_readTimes 0 [(0, .ref x0)] [] M Q := by
  unfold DX4_readTimes_0 at H
  refine xt_aload_n (j := 0) dX4_readTimes_0 rfl rfl ?_
  obtain ⟨ho1, H⟩ := H
  refine xt_callV (h2 := h) (as := []) (st := []) dX4_readTimes_1 (mlX4_387 rfl) rfl ho1.1 ⟨by rw [ho1.2]; rfl, by rw [ho1.2]; decide⟩ (by first | decide | (simp [Value.category]; done)) (Nat.le_refl _) H (fun r M2 HH hE => ?_)
  obtain ⟨hr, H⟩ := HH hE
  subst hr
  have ho1 := ok_E ho1 hE
  show T _ _ _ _ [] _ _
  refine xt_iconst (v := 0) dX4_readTimes_4 (by decide) ?_
  refine xt_istore_n (lv' := [(1, .int 0), (0, .ref x0)]) dX4_readTimes_5 rfl (by decide) rfl ?_
  exact xt_sub (lv' := [(0, .ref x0), (1, .int 0)]) [1, 0] rfl H
theorem KX4_readTimes {h : Nat} {x0 : Nat} {M : Mem} {Q : Option Value → Mem → Prop} (H : DX4_readTimes_0 h x0 M Q) : E (h + 1) mdX4_readTimes [.ref x0] M Q := E.of (by decide) (Nat.le_of_ble_eq_true rfl) (fun _ _ _ => trivial) (VX4_readTimes_0 H)
def DX4_readOne_210 (h : Nat) (M : Mem) (Q : Option Value → Mem → Prop) : Prop :=
  Q none M
set_option maxRecDepth 20000 in
set_option maxHeartbeats 2000000 in
theorem VX4_readOne_210 {h : Nat} {M : Mem} {Q : Option Value → Mem → Prop} (H : DX4_readOne_210 h  M Q) : T (h + 1) mdX4_readOne 210 [] [] M Q := by
  unfold DX4_readOne_210 at H
  exact xt_return dX4_readOne_210 rfl H
def DX4_readOne_174 (h : Nat) (x0 : Nat) (M : Mem) (Q : Option Value → Mem → Prop) : Prop :=
  ok M x0 6 ∧ ∃ b2 : Nat, mR M x0 0 = some b2 ∧ ok M b2 9 ∧ E h mdX7_closes [.ref b2] M (fun r M4 => mE M M4 → r = none ∧ ∃ b5 : Nat, mR M4 x0 7 = some b5 ∧ ok M4 b5 3 ∧ ∃ b7 : Nat, mR M4 b5 8 = some b7 ∧ ok M4 b7 8 ∧ E h mdX6_add [.ref b7, .int 4] M4 (fun r M9 => mE M4 M9 → r = none ∧ DX4_readOne_210 h  M9 Q))
set_option maxRecDepth 20000 in
set_option maxHeartbeats 2000000 in
theorem VX4_readOne_174 {h : Nat} {x0 : Nat} {M : Mem} {Q : Option Value → Mem → Prop} (H : DX4_readOne_174 h x0 M Q) : T (h + 1) mdX4_readOne 174 [(0, .ref x0)] [] M Q := by
  unfold DX4_readOne_174 at H
  refine xt_aload_n (j := 0) dX4_readOne_174 rfl rfl ?_
  obtain ⟨ho1, H⟩ := H
  obtain ⟨b2, hb, H⟩ := H
  refine xt_getR dX4_readOne_175 (flX4_14 rfl) ft_6_0 ho1.1 ho1.2 hb ?_
  obtain ⟨ho3, H⟩ := H
  refine xt_callV (h2 := h) (as := []) (st := []) dX4_readOne_178 (mlX4_207 rfl) rfl ho3.1 ⟨by rw [ho3.2]; rfl, by rw [ho3.2]; decide⟩ (by first | decide | (simp [Value.category]; done)) (Nat.le_refl _) H (fun r M4 HH hE => ?_)
  obtain ⟨hr, H⟩ := HH hE
  subst hr
  have ho1 := ok_E ho1 hE
  show T _ _ _ _ [] _ _
  refine xt_aload_n (j := 0) dX4_readOne_181 rfl rfl ?_
  obtain ⟨b5, hb, H⟩ := H
  refine xt_getR dX4_readOne_182 (flX4_31 rfl) ft_6_7 ho1.1 ho1.2 hb ?_
  obtain ⟨ho6, H⟩ := H
  obtain ⟨b7, hb, H⟩ := H
  refine xt_getR dX4_readOne_185 (flX4_277 rfl) ft_3_8 ho6.1 ho6.2 hb ?_
  refine xt_iconst (v := 4) dX4_readOne_188 (by decide) ?_
  obtain ⟨ho8, H⟩ := H
  refine xt_callV (h2 := h) (as := [.int 4]) (st := []) dX4_readOne_189 (mlX4_292 rfl) rfl ho8.1 ⟨by rw [ho8.2]; rfl, by rw [ho8.2]; decide⟩ (by first | decide | (simp [Value.category]; done)) (Nat.le_refl _) H (fun r M9 HH hE => ?_)
  obtain ⟨hr, H⟩ := HH hE
  subst hr
  have ho1 := ok_E ho1 hE
  show T _ _ _ _ [] _ _
  refine xt_goto (tgt := 210) dX4_readOne_192 (by decide) ?_
  exact xt_sub [] rfl (VX4_readOne_210 H)
def DX4_readOne_0 (h : Nat) (x0 : Nat) (M : Mem) (Q : Option Value → Mem → Prop) : Prop :=
  ok M x0 6 ∧ ∃ b2 : Nat, mR M x0 0 = some b2 ∧ ok M b2 9 ∧ ((mI M b2 9) = 2 → E h mdX4_usedVariable [.ref x0] M (fun r M4 => mE M M4 → ∃ r5 : Int32, r = some (.int r5) ∧ ∃ b6 : Nat, mR M4 x0 7 = some b6 ∧ ok M4 b6 3 ∧ ∃ b8 : Nat, mR M4 b6 8 = some b8 ∧ ok M4 b8 8 ∧ E h mdX6_addWith [.ref b8, .int 2, .int r5] M4 (fun r M10 => mE M4 M10 → r = none ∧ ∃ b11 : Nat, mR M10 x0 0 = some b11 ∧ ok M10 b11 9 ∧ E h mdX7_advance [.ref b11] M10 (fun r M13 => mE M10 M13 → r = none ∧ DX4_readOne_210 h  M13 Q)))) ∧
  ((mI M b2 9) = 3 → ∃ b14 : Nat, mR M x0 7 = some b14 ∧ ok M b14 3 ∧ ∃ b16 : Nat, mR M b14 8 = some b16 ∧ ∃ b17 : Nat, mR M x0 0 = some b17 ∧ ok M b17 9 ∧ ok M b16 8 ∧ E h mdX6_addWith [.ref b16, .int 1, .int ((mJ M b17 11 : Int64).toInt32)] M (fun r M20 => mE M M20 → r = none ∧ ∃ b21 : Nat, mR M20 x0 0 = some b21 ∧ ok M20 b21 9 ∧ E h mdX7_advance [.ref b21] M20 (fun r M23 => mE M20 M23 → r = none ∧ DX4_readOne_210 h  M23 Q))) ∧
  ((mI M b2 9) = 15 → E h mdX4_readInBrackets [.ref x0] M (fun r M24 => mE M M24 → r = none ∧ DX4_readOne_210 h  M24 Q)) ∧
  ((mI M b2 9) = 19 → ∃ b25 : Nat, mR M x0 0 = some b25 ∧ ok M b25 9 ∧ E h mdX7_advance [.ref b25] M (fun r M27 => mE M M27 → r = none ∧ E h mdX4_askedSignal [.ref x0] M27 (fun r M28 => mE M27 M28 → ∃ r29 : Int32, r = some (.int r29) ∧ ∃ b30 : Nat, mR M28 x0 7 = some b30 ∧ ok M28 b30 3 ∧ ∃ b32 : Nat, mR M28 b30 8 = some b32 ∧ ok M28 b32 8 ∧ E h mdX6_addWith [.ref b32, .int 3, .int r29] M28 (fun r M34 => mE M28 M34 → r = none ∧ ∃ b35 : Nat, mR M34 x0 0 = some b35 ∧ ok M34 b35 9 ∧ E h mdX7_advance [.ref b35] M34 (fun r M37 => mE M34 M37 → r = none ∧ DX4_readOne_210 h  M37 Q))))) ∧
  ((mI M b2 9) = 21 → ∃ b38 : Nat, mR M x0 0 = some b38 ∧ ok M b38 9 ∧ E h mdX7_opens [.ref b38] M (fun r M40 => mE M M40 → r = none ∧ ∃ b41 : Nat, mR M40 x0 0 = some b41 ∧ ok M40 b41 9 ∧ E h mdX7_advance [.ref b41] M40 (fun r M43 => mE M40 M43 → r = none ∧ ∃ b44 : Nat, mR M43 x0 0 = some b44 ∧ ok M43 b44 9 ∧ (¬ (mI M43 b44 12) = 0 → DX4_readOne_174 h x0 M43 Q) ∧
  ((mI M43 b44 12) = 0 → E h mdX4_readOne [.ref x0] M43 (fun r M46 => mE M43 M46 → r = none ∧ DX4_readOne_174 h x0 M46 Q))))) ∧
  (¬ (mI M b2 9) = 2 ∧ ¬ (mI M b2 9) = 3 ∧ ¬ (mI M b2 9) = 15 ∧ ¬ (mI M b2 9) = 19 ∧ ¬ (mI M b2 9) = 21 → ∃ b47 : Nat, mR M x0 0 = some b47 ∧ ok M b47 9 ∧ E h mdX7_fail [.ref b47, .int 2] M (fun r M49 => mE M M49 → r = none ∧ DX4_readOne_210 h  M49 Q))
set_option maxRecDepth 20000 in
set_option maxHeartbeats 2000000 in
theorem VX4_readOne_0 {h : Nat} {x0 : Nat} {M : Mem} {Q : Option Value → Mem → Prop} (H : DX4_readOne_0 h x0 M Q) : T (h + 1) mdX4_readOne 0 [(0, .ref x0)] [] M Q := by
  unfold DX4_readOne_0 at H
  refine xt_aload_n (j := 0) dX4_readOne_0 rfl rfl ?_
  obtain ⟨ho1, H⟩ := H
  obtain ⟨b2, hb, H⟩ := H
  refine xt_getR dX4_readOne_1 (flX4_14 rfl) ft_6_0 ho1.1 ho1.2 hb ?_
  obtain ⟨ho3, H⟩ := H
  refine xt_getI dX4_readOne_4 (flX4_66 rfl) ft_9_9 ho3.1 ho3.2 ?_
  by_cases hx0 : (mI M b2 9) = 2
  · have H := H.1 hx0
    refine xt_lookup (tgt := 85) dX4_readOne_7 (by decide) (by rw [hx0] <;> decide) (by decide) ?_
    refine xt_aload_n (j := 0) dX4_readOne_85 rfl rfl ?_
    refine xt_callV (h2 := h) (as := []) (st := []) dX4_readOne_86 (mlX4_393 rfl) rfl ho1.1 ⟨by rw [ho1.2]; rfl, by rw [ho1.2]; decide⟩ (by first | decide | (simp [Value.category]; done)) (Nat.le_refl _) H (fun r M4 HH hE => ?_)
    obtain ⟨r5, hr, H⟩ := HH hE
    subst hr
    have ho1 := ok_E ho1 hE
    show T _ _ _ _ [.int r5] _ _
    refine xt_istore_n (lv' := [(1, .int r5), (0, .ref x0)]) dX4_readOne_89 rfl (by decide) rfl ?_
    refine xt_aload_n (j := 1) dX4_readOne_90 rfl rfl ?_
    obtain ⟨b6, hb, H⟩ := H
    refine xt_getR dX4_readOne_91 (flX4_31 rfl) ft_6_7 ho1.1 ho1.2 hb ?_
    obtain ⟨ho7, H⟩ := H
    obtain ⟨b8, hb, H⟩ := H
    refine xt_getR dX4_readOne_94 (flX4_277 rfl) ft_3_8 ho7.1 ho7.2 hb ?_
    refine xt_iconst (v := 2) dX4_readOne_97 (by decide) ?_
    refine xt_iload_n (j := 0) dX4_readOne_98 rfl rfl ?_
    obtain ⟨ho9, H⟩ := H
    refine xt_callV (h2 := h) (as := [.int 2, .int r5]) (st := []) dX4_readOne_99 (mlX4_390 rfl) rfl ho9.1 ⟨by rw [ho9.2]; rfl, by rw [ho9.2]; decide⟩ (by first | decide | (simp [Value.category]; done)) (Nat.le_refl _) H (fun r M10 HH hE => ?_)
    obtain ⟨hr, H⟩ := HH hE
    subst hr
    have ho1 := ok_E ho1 hE
    show T _ _ _ _ [] _ _
    refine xt_aload_n (j := 1) dX4_readOne_102 rfl rfl ?_
    obtain ⟨b11, hb, H⟩ := H
    refine xt_getR dX4_readOne_103 (flX4_14 rfl) ft_6_0 ho1.1 ho1.2 hb ?_
    obtain ⟨ho12, H⟩ := H
    refine xt_callV (h2 := h) (as := []) (st := []) dX4_readOne_106 (mlX4_117 rfl) rfl ho12.1 ⟨by rw [ho12.2]; rfl, by rw [ho12.2]; decide⟩ (by first | decide | (simp [Value.category]; done)) (Nat.le_refl _) H (fun r M13 HH hE => ?_)
    obtain ⟨hr, H⟩ := HH hE
    subst hr
    have ho1 := ok_E ho1 hE
    show T _ _ _ _ [] _ _
    refine xt_goto (tgt := 210) dX4_readOne_109 (by decide) ?_
    exact xt_sub [] rfl (VX4_readOne_210 H)
  by_cases hx1 : (mI M b2 9) = 3
  · have H := H.2.1 hx1
    refine xt_lookup (tgt := 56) dX4_readOne_7 (by decide) (by rw [hx1] <;> decide) (by decide) ?_
    refine xt_aload_n (j := 0) dX4_readOne_56 rfl rfl ?_
    obtain ⟨b14, hb, H⟩ := H
    refine xt_getR dX4_readOne_57 (flX4_31 rfl) ft_6_7 ho1.1 ho1.2 hb ?_
    obtain ⟨ho15, H⟩ := H
    obtain ⟨b16, hb, H⟩ := H
    refine xt_getR dX4_readOne_60 (flX4_277 rfl) ft_3_8 ho15.1 ho15.2 hb ?_
    refine xt_iconst (v := 1) dX4_readOne_63 (by decide) ?_
    refine xt_aload_n (j := 0) dX4_readOne_64 rfl rfl ?_
    obtain ⟨b17, hb, H⟩ := H
    refine xt_getR dX4_readOne_65 (flX4_14 rfl) ft_6_0 ho1.1 ho1.2 hb ?_
    obtain ⟨ho18, H⟩ := H
    refine xt_getJ dX4_readOne_68 (flX4_126 rfl) ft_9_11 ho18.1 ho18.2 ?_
    refine xt_l2i dX4_readOne_71 ?_
    obtain ⟨ho19, H⟩ := H
    refine xt_callV (h2 := h) (as := [.int 1, .int ((mJ M b17 11 : Int64).toInt32)]) (st := []) dX4_readOne_72 (mlX4_390 rfl) rfl ho19.1 ⟨by rw [ho19.2]; rfl, by rw [ho19.2]; decide⟩ (by first | decide | (simp [Value.category]; done)) (Nat.le_refl _) H (fun r M20 HH hE => ?_)
    obtain ⟨hr, H⟩ := HH hE
    subst hr
    have ho1 := ok_E ho1 hE
    show T _ _ _ _ [] _ _
    refine xt_aload_n (j := 0) dX4_readOne_75 rfl rfl ?_
    obtain ⟨b21, hb, H⟩ := H
    refine xt_getR dX4_readOne_76 (flX4_14 rfl) ft_6_0 ho1.1 ho1.2 hb ?_
    obtain ⟨ho22, H⟩ := H
    refine xt_callV (h2 := h) (as := []) (st := []) dX4_readOne_79 (mlX4_117 rfl) rfl ho22.1 ⟨by rw [ho22.2]; rfl, by rw [ho22.2]; decide⟩ (by first | decide | (simp [Value.category]; done)) (Nat.le_refl _) H (fun r M23 HH hE => ?_)
    obtain ⟨hr, H⟩ := HH hE
    subst hr
    have ho1 := ok_E ho1 hE
    show T _ _ _ _ [] _ _
    refine xt_goto (tgt := 210) dX4_readOne_82 (by decide) ?_
    exact xt_sub [] rfl (VX4_readOne_210 H)
  by_cases hx2 : (mI M b2 9) = 15
  · have H := H.2.2.1 hx2
    refine xt_lookup (tgt := 195) dX4_readOne_7 (by decide) (by rw [hx2] <;> decide) (by decide) ?_
    refine xt_aload_n (j := 0) dX4_readOne_195 rfl rfl ?_
    refine xt_callV (h2 := h) (as := []) (st := []) dX4_readOne_196 (mlX4_289 rfl) rfl ho1.1 ⟨by rw [ho1.2]; rfl, by rw [ho1.2]; decide⟩ (by first | decide | (simp [Value.category]; done)) (Nat.le_refl _) H (fun r M24 HH hE => ?_)
    obtain ⟨hr, H⟩ := HH hE
    subst hr
    have ho1 := ok_E ho1 hE
    show T _ _ _ _ [] _ _
    refine xt_goto (tgt := 210) dX4_readOne_199 (by decide) ?_
    exact xt_sub [] rfl (VX4_readOne_210 H)
  by_cases hx3 : (mI M b2 9) = 19
  · have H := H.2.2.2.1 hx3
    refine xt_lookup (tgt := 112) dX4_readOne_7 (by decide) (by rw [hx3] <;> decide) (by decide) ?_
    refine xt_aload_n (j := 0) dX4_readOne_112 rfl rfl ?_
    obtain ⟨b25, hb, H⟩ := H
    refine xt_getR dX4_readOne_113 (flX4_14 rfl) ft_6_0 ho1.1 ho1.2 hb ?_
    obtain ⟨ho26, H⟩ := H
    refine xt_callV (h2 := h) (as := []) (st := []) dX4_readOne_116 (mlX4_117 rfl) rfl ho26.1 ⟨by rw [ho26.2]; rfl, by rw [ho26.2]; decide⟩ (by first | decide | (simp [Value.category]; done)) (Nat.le_refl _) H (fun r M27 HH hE => ?_)
    obtain ⟨hr, H⟩ := HH hE
    subst hr
    have ho1 := ok_E ho1 hE
    show T _ _ _ _ [] _ _
    refine xt_aload_n (j := 0) dX4_readOne_119 rfl rfl ?_
    refine xt_callV (h2 := h) (as := []) (st := []) dX4_readOne_120 (mlX4_396 rfl) rfl ho1.1 ⟨by rw [ho1.2]; rfl, by rw [ho1.2]; decide⟩ (by first | decide | (simp [Value.category]; done)) (Nat.le_refl _) H (fun r M28 HH hE => ?_)
    obtain ⟨r29, hr, H⟩ := HH hE
    subst hr
    have ho1 := ok_E ho1 hE
    show T _ _ _ _ [.int r29] _ _
    refine xt_istore_n (lv' := [(2, .int r29), (0, .ref x0)]) dX4_readOne_123 rfl (by decide) rfl ?_
    refine xt_aload_n (j := 1) dX4_readOne_124 rfl rfl ?_
    obtain ⟨b30, hb, H⟩ := H
    refine xt_getR dX4_readOne_125 (flX4_31 rfl) ft_6_7 ho1.1 ho1.2 hb ?_
    obtain ⟨ho31, H⟩ := H
    obtain ⟨b32, hb, H⟩ := H
    refine xt_getR dX4_readOne_128 (flX4_277 rfl) ft_3_8 ho31.1 ho31.2 hb ?_
    refine xt_iconst (v := 3) dX4_readOne_131 (by decide) ?_
    refine xt_iload_n (j := 0) dX4_readOne_132 rfl rfl ?_
    obtain ⟨ho33, H⟩ := H
    refine xt_callV (h2 := h) (as := [.int 3, .int r29]) (st := []) dX4_readOne_133 (mlX4_390 rfl) rfl ho33.1 ⟨by rw [ho33.2]; rfl, by rw [ho33.2]; decide⟩ (by first | decide | (simp [Value.category]; done)) (Nat.le_refl _) H (fun r M34 HH hE => ?_)
    obtain ⟨hr, H⟩ := HH hE
    subst hr
    have ho1 := ok_E ho1 hE
    show T _ _ _ _ [] _ _
    refine xt_aload_n (j := 1) dX4_readOne_136 rfl rfl ?_
    obtain ⟨b35, hb, H⟩ := H
    refine xt_getR dX4_readOne_137 (flX4_14 rfl) ft_6_0 ho1.1 ho1.2 hb ?_
    obtain ⟨ho36, H⟩ := H
    refine xt_callV (h2 := h) (as := []) (st := []) dX4_readOne_140 (mlX4_117 rfl) rfl ho36.1 ⟨by rw [ho36.2]; rfl, by rw [ho36.2]; decide⟩ (by first | decide | (simp [Value.category]; done)) (Nat.le_refl _) H (fun r M37 HH hE => ?_)
    obtain ⟨hr, H⟩ := HH hE
    subst hr
    have ho1 := ok_E ho1 hE
    show T _ _ _ _ [] _ _
    refine xt_goto (tgt := 210) dX4_readOne_143 (by decide) ?_
    exact xt_sub [] rfl (VX4_readOne_210 H)
  by_cases hx4 : (mI M b2 9) = 21
  · have H := H.2.2.2.2.1 hx4
    refine xt_lookup (tgt := 146) dX4_readOne_7 (by decide) (by rw [hx4] <;> decide) (by decide) ?_
    refine xt_aload_n (j := 0) dX4_readOne_146 rfl rfl ?_
    obtain ⟨b38, hb, H⟩ := H
    refine xt_getR dX4_readOne_147 (flX4_14 rfl) ft_6_0 ho1.1 ho1.2 hb ?_
    obtain ⟨ho39, H⟩ := H
    refine xt_callV (h2 := h) (as := []) (st := []) dX4_readOne_150 (mlX4_193 rfl) rfl ho39.1 ⟨by rw [ho39.2]; rfl, by rw [ho39.2]; decide⟩ (by first | decide | (simp [Value.category]; done)) (Nat.le_refl _) H (fun r M40 HH hE => ?_)
    obtain ⟨hr, H⟩ := HH hE
    subst hr
    have ho1 := ok_E ho1 hE
    show T _ _ _ _ [] _ _
    refine xt_aload_n (j := 0) dX4_readOne_153 rfl rfl ?_
    obtain ⟨b41, hb, H⟩ := H
    refine xt_getR dX4_readOne_154 (flX4_14 rfl) ft_6_0 ho1.1 ho1.2 hb ?_
    obtain ⟨ho42, H⟩ := H
    refine xt_callV (h2 := h) (as := []) (st := []) dX4_readOne_157 (mlX4_117 rfl) rfl ho42.1 ⟨by rw [ho42.2]; rfl, by rw [ho42.2]; decide⟩ (by first | decide | (simp [Value.category]; done)) (Nat.le_refl _) H (fun r M43 HH hE => ?_)
    obtain ⟨hr, H⟩ := HH hE
    subst hr
    have ho1 := ok_E ho1 hE
    show T _ _ _ _ [] _ _
    refine xt_aload_n (j := 0) dX4_readOne_160 rfl rfl ?_
    obtain ⟨b44, hb, H⟩ := H
    refine xt_getR dX4_readOne_161 (flX4_14 rfl) ft_6_0 ho1.1 ho1.2 hb ?_
    obtain ⟨ho45, H⟩ := H
    refine xt_getI dX4_readOne_164 (flX4_79 rfl) ft_9_12 ho45.1 ho45.2 ?_
    refine xt_if_ne (tgt := 174) dX4_readOne_167 (by decide) (fun hc => ?_) (fun hc => ?_)
    · have H := H.1 hc
      exact xt_sub [0] rfl (VX4_readOne_174 H)
    · have H := H.2 hc
      refine xt_aload_n (j := 0) dX4_readOne_170 rfl rfl ?_
      refine xt_callV (h2 := h) (as := []) (st := []) dX4_readOne_171 (mlX4_387 rfl) rfl ho1.1 ⟨by rw [ho1.2]; rfl, by rw [ho1.2]; decide⟩ (by first | decide | (simp [Value.category]; done)) (Nat.le_refl _) H (fun r M46 HH hE => ?_)
      obtain ⟨hr, H⟩ := HH hE
      subst hr
      have ho1 := ok_E ho1 hE
      show T _ _ _ _ [] _ _
      exact xt_sub [0] rfl (VX4_readOne_174 H)
  have H := H.2.2.2.2.2 ⟨hx0, hx1, hx2, hx3, hx4⟩
  have hn0 : ¬ (2 : Int) = (mI M b2 9 : Int32).toInt := fun q => hx0 (i32_ofInt q.symm)
  have hn1 : ¬ (3 : Int) = (mI M b2 9 : Int32).toInt := fun q => hx1 (i32_ofInt q.symm)
  have hn2 : ¬ (15 : Int) = (mI M b2 9 : Int32).toInt := fun q => hx2 (i32_ofInt q.symm)
  have hn3 : ¬ (19 : Int) = (mI M b2 9 : Int32).toInt := fun q => hx3 (i32_ofInt q.symm)
  have hn4 : ¬ (21 : Int) = (mI M b2 9 : Int32).toInt := fun q => hx4 (i32_ofInt q.symm)
  refine xt_lookup (off := 195) (tgt := 202) dX4_readOne_7 (by decide) (by simp [Op.lookupswitch.offset, hn0, hn1, hn2, hn3, hn4]) (by decide) ?_
  refine xt_aload_n (j := 0) dX4_readOne_202 rfl rfl ?_
  obtain ⟨b47, hb, H⟩ := H
  refine xt_getR dX4_readOne_203 (flX4_14 rfl) ft_6_0 ho1.1 ho1.2 hb ?_
  refine xt_iconst (v := 2) dX4_readOne_206 (by decide) ?_
  obtain ⟨ho48, H⟩ := H
  refine xt_callV (h2 := h) (as := [.int 2]) (st := []) dX4_readOne_207 (mlX4_69 rfl) rfl ho48.1 ⟨by rw [ho48.2]; rfl, by rw [ho48.2]; decide⟩ (by first | decide | (simp [Value.category]; done)) (Nat.le_refl _) H (fun r M49 HH hE => ?_)
  obtain ⟨hr, H⟩ := HH hE
  subst hr
  have ho1 := ok_E ho1 hE
  show T _ _ _ _ [] _ _
  exact xt_sub [] rfl (VX4_readOne_210 H)
theorem KX4_readOne {h : Nat} {x0 : Nat} {M : Mem} {Q : Option Value → Mem → Prop} (H : DX4_readOne_0 h x0 M Q) : E (h + 1) mdX4_readOne [.ref x0] M Q := E.of (by decide) (Nat.le_of_ble_eq_true rfl) (fun _ _ _ => trivial) (VX4_readOne_0 H)
def DX4_usedVariable_0 (h : Nat) (x0 : Nat) (M : Mem) (Q : Option Value → Mem → Prop) : Prop :=
  ok M x0 6 ∧ ∃ b2 : Nat, mR M x0 7 = some b2 ∧ ∃ b3 : Nat, mR M x0 0 = some b3 ∧ ok M b3 9 ∧ ok M b2 3 ∧ E h mdX1_variableNamed [.ref b2, .long (mJ M b3 11)] M (fun r M6 => mE M M6 → ∃ r7 : Int32, r = some (.int r7) ∧ (¬ r7 = (-1) → ∀ M8 : Mem, M8 = wI M6 x0 6 ((mI M6 x0 6) ||| ((1 : Int32) <<< (r7 &&& 31))) →
  Q (some (.int r7)) M8) ∧
  (r7 = (-1) → ∃ b9 : Nat, mR M6 x0 0 = some b9 ∧ ok M6 b9 9 ∧ E h mdX7_fail [.ref b9, .int 4] M6 (fun r M11 => mE M6 M11 → r = none ∧ Q (some (.int (-1))) M11)))
set_option maxRecDepth 20000 in
set_option maxHeartbeats 2000000 in
theorem VX4_usedVariable_0 {h : Nat} {x0 : Nat} {M : Mem} {Q : Option Value → Mem → Prop} (H : DX4_usedVariable_0 h x0 M Q) : T (h + 1) mdX4_usedVariable 0 [(0, .ref x0)] [] M Q := by
  unfold DX4_usedVariable_0 at H
  refine xt_aload_n (j := 0) dX4_usedVariable_0 rfl rfl ?_
  obtain ⟨ho1, H⟩ := H
  obtain ⟨b2, hb, H⟩ := H
  refine xt_getR dX4_usedVariable_1 (flX4_31 rfl) ft_6_7 ho1.1 ho1.2 hb ?_
  refine xt_aload_n (j := 0) dX4_usedVariable_4 rfl rfl ?_
  obtain ⟨b3, hb, H⟩ := H
  refine xt_getR dX4_usedVariable_5 (flX4_14 rfl) ft_6_0 ho1.1 ho1.2 hb ?_
  obtain ⟨ho4, H⟩ := H
  refine xt_getJ dX4_usedVariable_8 (flX4_126 rfl) ft_9_11 ho4.1 ho4.2 ?_
  obtain ⟨ho5, H⟩ := H
  refine xt_callV (h2 := h) (as := [.long (mJ M b3 11)]) (st := []) dX4_usedVariable_11 (mlX4_210 rfl) rfl ho5.1 ⟨by rw [ho5.2]; rfl, by rw [ho5.2]; decide⟩ (by first | decide | (simp [Value.category]; done)) (Nat.le_refl _) H (fun r M6 HH hE => ?_)
  obtain ⟨r7, hr, H⟩ := HH hE
  subst hr
  have ho1 := ok_E ho1 hE
  show T _ _ _ _ [.int r7] _ _
  refine xt_istore_n (lv' := [(1, .int r7), (0, .ref x0)]) dX4_usedVariable_14 rfl (by decide) rfl ?_
  refine xt_iload_n (j := 0) dX4_usedVariable_15 rfl rfl ?_
  refine xt_iconst (v := -1) dX4_usedVariable_16 (by decide) ?_
  refine xt_icmp_ne (tgt := 30) dX4_usedVariable_17 (by decide) (fun hc => ?_) (fun hc => ?_)
  · have H := H.1 hc
    refine xt_aload_n (j := 1) dX4_usedVariable_30 rfl rfl ?_
    refine xt_dup dX4_usedVariable_31 rfl ?_
    refine xt_getI dX4_usedVariable_32 (flX4_45 rfl) ft_6_6 ho1.1 ho1.2 ?_
    refine xt_iconst (v := 1) dX4_usedVariable_35 (by decide) ?_
    refine xt_iload_n (j := 0) dX4_usedVariable_36 rfl rfl ?_
    refine xt_ishl dX4_usedVariable_37 ?_
    refine xt_ior dX4_usedVariable_38 ?_
    obtain ⟨M8, eM8⟩ : ∃ z, z = wI M6 x0 6 ((mI M6 x0 6) ||| ((1 : Int32) <<< (r7 &&& 31))) := ⟨_, rfl⟩
    have H := H _ eM8
    refine xt_putI dX4_usedVariable_39 (flX4_45 rfl) ty_6_6 rfl ho1.1 ho1.2 ?_
    have ho1 : ok M8 x0 6 := by rw [eM8]; exact ho1
    rw [← eM8]
    refine xt_iload_n (j := 0) dX4_usedVariable_42 rfl rfl ?_
    exact xt_ireturn dX4_usedVariable_43 rfl H
  · have H := H.2 hc
    refine xt_aload_n (j := 1) dX4_usedVariable_20 rfl rfl ?_
    obtain ⟨b9, hb, H⟩ := H
    refine xt_getR dX4_usedVariable_21 (flX4_14 rfl) ft_6_0 ho1.1 ho1.2 hb ?_
    refine xt_iconst (v := 4) dX4_usedVariable_24 (by decide) ?_
    obtain ⟨ho10, H⟩ := H
    refine xt_callV (h2 := h) (as := [.int 4]) (st := []) dX4_usedVariable_25 (mlX4_69 rfl) rfl ho10.1 ⟨by rw [ho10.2]; rfl, by rw [ho10.2]; decide⟩ (by first | decide | (simp [Value.category]; done)) (Nat.le_refl _) H (fun r M11 HH hE => ?_)
    obtain ⟨hr, H⟩ := HH hE
    subst hr
    have ho1 := ok_E ho1 hE
    show T _ _ _ _ [] _ _
    refine xt_iconst (v := -1) dX4_usedVariable_28 (by decide) ?_
    exact xt_ireturn dX4_usedVariable_29 rfl H
theorem KX4_usedVariable {h : Nat} {x0 : Nat} {M : Mem} {Q : Option Value → Mem → Prop} (H : DX4_usedVariable_0 h x0 M Q) : E (h + 1) mdX4_usedVariable [.ref x0] M Q := E.of (by decide) (Nat.le_of_ble_eq_true rfl) (fun _ _ _ => trivial) (VX4_usedVariable_0 H)
def DX4_askedSignal_30 (h : Nat) (x1 : Int32) (M : Mem) (Q : Option Value → Mem → Prop) : Prop :=
  Q (some (.int x1)) M
set_option maxRecDepth 20000 in
set_option maxHeartbeats 2000000 in
theorem VX4_askedSignal_30 {h : Nat} {x1 : Int32} {M : Mem} {Q : Option Value → Mem → Prop} (H : DX4_askedSignal_30 h x1 M Q) : T (h + 1) mdX4_askedSignal 30 [(1, .int x1)] [] M Q := by
  unfold DX4_askedSignal_30 at H
  refine xt_iload_n (j := 0) dX4_askedSignal_30 rfl rfl ?_
  exact xt_ireturn dX4_askedSignal_31 rfl H
def DX4_askedSignal_0 (h : Nat) (x0 : Nat) (M : Mem) (Q : Option Value → Mem → Prop) : Prop :=
  ok M x0 6 ∧ E h mdX4_toldSignal [.ref x0] M (fun r M2 => mE M M2 → ∃ r3 : Int32, r = some (.int r3) ∧ (r3 = (-1) → DX4_askedSignal_30 h r3 M2 Q) ∧
  (¬ (r3 = (-1)) → ∃ b4 : Nat, mR M2 x0 7 = some b4 ∧ ok M2 b4 3 ∧ ∃ b6 : Nat, mR M2 b4 2 = some b6 ∧ ok M2 b6 21 ∧ vp_in r3 (mL M2 b6) ∧ (¬ (mAI M2 b6 (r3 : Int32).toNatClampNeg) = 0 → DX4_askedSignal_30 h r3 M2 Q) ∧
  ((mAI M2 b6 (r3 : Int32).toNatClampNeg) = 0 → ∃ b8 : Nat, mR M2 x0 0 = some b8 ∧ ok M2 b8 9 ∧ E h mdX7_fail [.ref b8, .int 4] M2 (fun r M10 => mE M2 M10 → r = none ∧ DX4_askedSignal_30 h r3 M10 Q))))
set_option maxRecDepth 20000 in
set_option maxHeartbeats 2000000 in
theorem VX4_askedSignal_0 {h : Nat} {x0 : Nat} {M : Mem} {Q : Option Value → Mem → Prop} (H : DX4_askedSignal_0 h x0 M Q) : T (h + 1) mdX4_askedSignal 0 [(0, .ref x0)] [] M Q := by
  unfold DX4_askedSignal_0 at H
  refine xt_aload_n (j := 0) dX4_askedSignal_0 rfl rfl ?_
  obtain ⟨ho1, H⟩ := H
  refine xt_callV (h2 := h) (as := []) (st := []) dX4_askedSignal_1 (mlX4_300 rfl) rfl ho1.1 ⟨by rw [ho1.2]; rfl, by rw [ho1.2]; decide⟩ (by first | decide | (simp [Value.category]; done)) (Nat.le_refl _) H (fun r M2 HH hE => ?_)
  obtain ⟨r3, hr, H⟩ := HH hE
  subst hr
  have ho1 := ok_E ho1 hE
  show T _ _ _ _ [.int r3] _ _
  refine xt_istore_n (lv' := [(1, .int r3), (0, .ref x0)]) dX4_askedSignal_4 rfl (by decide) rfl ?_
  refine xt_iload_n (j := 0) dX4_askedSignal_5 rfl rfl ?_
  refine xt_iconst (v := -1) dX4_askedSignal_6 (by decide) ?_
  refine xt_icmp_eq (tgt := 30) dX4_askedSignal_7 (by decide) (fun hc => ?_) (fun hc => ?_)
  · have H := H.1 hc
    exact xt_sub [0] rfl (VX4_askedSignal_30 H)
  · have H := H.2 hc
    refine xt_aload_n (j := 1) dX4_askedSignal_10 rfl rfl ?_
    obtain ⟨b4, hb, H⟩ := H
    refine xt_getR dX4_askedSignal_11 (flX4_31 rfl) ft_6_7 ho1.1 ho1.2 hb ?_
    obtain ⟨ho5, H⟩ := H
    obtain ⟨b6, hb, H⟩ := H
    refine xt_getR dX4_askedSignal_14 (flX4_138 rfl) ft_3_2 ho5.1 ho5.2 hb ?_
    refine xt_iload_n (j := 0) dX4_askedSignal_17 rfl rfl ?_
    obtain ⟨ho7, H⟩ := H
    obtain ⟨hi, H⟩ := H
    refine xt_iald dX4_askedSignal_18 ho7.1 ho7.2 hi ?_
    refine xt_if_ne (tgt := 30) dX4_askedSignal_19 (by decide) (fun hc => ?_) (fun hc => ?_)
    · have H := H.1 hc
      exact xt_sub [0] rfl (VX4_askedSignal_30 H)
    · have H := H.2 hc
      refine xt_aload_n (j := 1) dX4_askedSignal_22 rfl rfl ?_
      obtain ⟨b8, hb, H⟩ := H
      refine xt_getR dX4_askedSignal_23 (flX4_14 rfl) ft_6_0 ho1.1 ho1.2 hb ?_
      refine xt_iconst (v := 4) dX4_askedSignal_26 (by decide) ?_
      obtain ⟨ho9, H⟩ := H
      refine xt_callV (h2 := h) (as := [.int 4]) (st := []) dX4_askedSignal_27 (mlX4_69 rfl) rfl ho9.1 ⟨by rw [ho9.2]; rfl, by rw [ho9.2]; decide⟩ (by first | decide | (simp [Value.category]; done)) (Nat.le_refl _) H (fun r M10 HH hE => ?_)
      obtain ⟨hr, H⟩ := HH hE
      subst hr
      have ho1 := ok_E ho1 hE
      show T _ _ _ _ [] _ _
      exact xt_sub [0] rfl (VX4_askedSignal_30 H)
theorem KX4_askedSignal {h : Nat} {x0 : Nat} {M : Mem} {Q : Option Value → Mem → Prop} (H : DX4_askedSignal_0 h x0 M Q) : E (h + 1) mdX4_askedSignal [.ref x0] M Q := E.of (by decide) (Nat.le_of_ble_eq_true rfl) (fun _ _ _ => trivial) (VX4_askedSignal_0 H)
