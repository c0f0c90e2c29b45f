def DX1_init_0 (h : Nat) (x0 : Nat) (M : Mem) (Q : Option Value → Mem → Prop) : Prop :=
  ¬ (16 : Int32) < 0 ∧ ((16 : Int32).toNatClampNeg ≤ 60000000) ∧ ∀ (q2 : Nat) (M1 : Mem), q2 = mN M → M1 = nwA M 23 ((16 : Int32).toNatClampNeg) →
  ok M1 x0 3 ∧ ∀ M4 : Mem, M4 = wR M1 x0 0 (some q2) →
  ¬ (16 : Int32) < 0 ∧ ((16 : Int32).toNatClampNeg ≤ 100000000) ∧ ∀ (q6 : Nat) (M5 : Mem), q6 = mN M4 → M5 = nwA M4 21 ((16 : Int32).toNatClampNeg) →
  ∀ M7 : Mem, M7 = wR M5 x0 1 (some q6) →
  ¬ (16 : Int32) < 0 ∧ ((16 : Int32).toNatClampNeg ≤ 100000000) ∧ ∀ (q9 : Nat) (M8 : Mem), q9 = mN M7 → M8 = nwA M7 21 ((16 : Int32).toNatClampNeg) →
  ∀ M10 : Mem, M10 = wR M8 x0 2 (some q9) →
  ¬ (4 : Int32) < 0 ∧ ((4 : Int32).toNatClampNeg ≤ 100000000) ∧ ∀ (q12 : Nat) (M11 : Mem), q12 = mN M10 → M11 = nwA M10 21 ((4 : Int32).toNatClampNeg) →
  ∀ M13 : Mem, M13 = wR M11 x0 3 (some q12) →
  ¬ (6 : Int32) < 0 ∧ ((6 : Int32).toNatClampNeg ≤ 60000000) ∧ ∀ (q15 : Nat) (M14 : Mem), q15 = mN M13 → M14 = nwA M13 23 ((6 : Int32).toNatClampNeg) →
  ∀ M16 : Mem, M16 = wR M14 x0 4 (some q15) →
  ¬ (6 : Int32) < 0 ∧ ((6 : Int32).toNatClampNeg ≤ 100000000) ∧ ∀ (q18 : Nat) (M17 : Mem), q18 = mN M16 → M17 = nwA M16 21 ((6 : Int32).toNatClampNeg) →
  ∀ M19 : Mem, M19 = wR M17 x0 5 (some q18) →
  ∀ (q21 : Nat) (M20 : Mem), q21 = mN M19 → M20 = nwO M19 1 3 →
  E h mdJx4a65c_init_da8c8 [.ref q21] M20 (fun r M22 => mE M20 M22 → r = none ∧ ∀ M23 : Mem, M23 = wR M22 x0 6 (some q21) →
  ∀ (q25 : Nat) (M24 : Mem), q25 = mN M23 → M24 = nwO M23 2 17 →
  E h mdX0_init [.ref q25] M24 (fun r M26 => mE M24 M26 → r = none ∧ ∀ M27 : Mem, M27 = wR M26 x0 7 (some q25) →
  ∀ (q29 : Nat) (M28 : Mem), q29 = mN M27 → M28 = nwO M27 8 5 →
  E h mdX6_init [.ref q29] M28 (fun r M30 => mE M28 M30 → r = none ∧ ∀ M31 : Mem, M31 = wR M30 x0 8 (some q29) →
  Q none M31)))
set_option maxRecDepth 20000 in
set_option maxHeartbeats 2000000 in
theorem VX1_init_0 {h : Nat} {x0 : Nat} {M : Mem} {Q : Option Value → Mem → Prop} (H : DX1_init_0 h x0 M Q) : T (h + 1) mdX1_init 0 [(0, .ref x0)] [] M Q := by
  unfold DX1_init_0 at H
  refine xt_aload_n (j := 0) dX1_init_0 rfl rfl ?_
  refine xt_objInit dX1_init_1 (oiX1_3 rfl) (by decide) (Nat.succ_le_succ (Nat.zero_le _)) ?_
  refine xt_aload_n (j := 0) dX1_init_4 rfl rfl ?_
  refine xt_bipush (v := 16) dX1_init_5 (by decide) ?_
  obtain ⟨hn, hy, H⟩ := H
  obtain ⟨M1, eM1⟩ : ∃ z, z = nwA M 23 ((16 : Int32).toNatClampNeg) := ⟨_, rfl⟩
  obtain ⟨q2, eq2⟩ : ∃ z, z = mN M := ⟨_, rfl⟩
  have H := H _ _ eq2 eM1
  refine xt_newJ dX1_init_7 ac_J hn rfl hy ?_
  rw [← eM1, ← eq2]
  obtain ⟨ho3, H⟩ := H
  obtain ⟨M4, eM4⟩ : ∃ z, z = wR M1 x0 0 (some q2) := ⟨_, rfl⟩
  have H := H _ eM4
  refine xt_putR dX1_init_9 (flX1_11 rfl) ft_3_0 rfl ho3.1 ho3.2 ?_
  have ho3 : ok M4 x0 3 := by rw [eM4]; exact ho3
  rw [← eM4]
  refine xt_aload_n (j := 0) dX1_init_12 rfl rfl ?_
  refine xt_bipush (v := 16) dX1_init_13 (by decide) ?_
  obtain ⟨hn, hy, H⟩ := H
  obtain ⟨M5, eM5⟩ : ∃ z, z = nwA M4 21 ((16 : Int32).toNatClampNeg) := ⟨_, rfl⟩
  obtain ⟨q6, eq6⟩ : ∃ z, z = mN M4 := ⟨_, rfl⟩
  have H := H _ _ eq6 eM5
  refine xt_newI dX1_init_15 ac_I hn rfl hy ?_
  have ho3 : ok M5 x0 3 := by rw [eM5]; exact ok_nwA ho3
  rw [← eM5, ← eq6]
  obtain ⟨M7, eM7⟩ : ∃ z, z = wR M5 x0 1 (some q6) := ⟨_, rfl⟩
  have H := H _ eM7
  refine xt_putR dX1_init_17 (flX1_15 rfl) ft_3_1 rfl ho3.1 ho3.2 ?_
  have ho3 : ok M7 x0 3 := by rw [eM7]; exact ho3
  rw [← eM7]
  refine xt_aload_n (j := 0) dX1_init_20 rfl rfl ?_
  refine xt_bipush (v := 16) dX1_init_21 (by decide) ?_
  obtain ⟨hn, hy, H⟩ := H
  obtain ⟨M8, eM8⟩ : ∃ z, z = nwA M7 21 ((16 : Int32).toNatClampNeg) := ⟨_, rfl⟩
  obtain ⟨q9, eq9⟩ : ∃ z, z = mN M7 := ⟨_, rfl⟩
  have H := H _ _ eq9 eM8
  refine xt_newI dX1_init_23 ac_I hn rfl hy ?_
  have ho3 : ok M8 x0 3 := by rw [eM8]; exact ok_nwA ho3
  rw [← eM8, ← eq9]
  obtain ⟨M10, eM10⟩ : ∃ z, z = wR M8 x0 2 (some q9) := ⟨_, rfl⟩
  have H := H _ eM10
  refine xt_putR dX1_init_25 (flX1_19 rfl) ft_3_2 rfl ho3.1 ho3.2 ?_
  have ho3 : ok M10 x0 3 := by rw [eM10]; exact ho3
  rw [← eM10]
  refine xt_aload_n (j := 0) dX1_init_28 rfl rfl ?_
  refine xt_iconst (v := 4) dX1_init_29 (by decide) ?_
  obtain ⟨hn, hy, H⟩ := H
  obtain ⟨M11, eM11⟩ : ∃ z, z = nwA M10 21 ((4 : Int32).toNatClampNeg) := ⟨_, rfl⟩
  obtain ⟨q12, eq12⟩ : ∃ z, z = mN M10 := ⟨_, rfl⟩
  have H := H _ _ eq12 eM11
  refine xt_newI dX1_init_30 ac_I hn rfl hy ?_
  have ho3 : ok M11 x0 3 := by rw [eM11]; exact ok_nwA ho3
  rw [← eM11, ← eq12]
  obtain ⟨M13, eM13⟩ : ∃ z, z = wR M11 x0 3 (some q12) := ⟨_, rfl⟩
  have H := H _ eM13
  refine xt_putR dX1_init_32 (flX1_22 rfl) ft_3_3 rfl ho3.1 ho3.2 ?_
  have ho3 : ok M13 x0 3 := by rw [eM13]; exact ho3
  rw [← eM13]
  refine xt_aload_n (j := 0) dX1_init_35 rfl rfl ?_
  refine xt_bipush (v := 6) dX1_init_36 (by decide) ?_
  obtain ⟨hn, hy, H⟩ := H
  obtain ⟨M14, eM14⟩ : ∃ z, z = nwA M13 23 ((6 : Int32).toNatClampNeg) := ⟨_, rfl⟩
  obtain ⟨q15, eq15⟩ : ∃ z, z = mN M13 := ⟨_, rfl⟩
  have H := H _ _ eq15 eM14
  refine xt_newJ dX1_init_38 ac_J hn rfl hy ?_
  have ho3 : ok M14 x0 3 := by rw [eM14]; exact ok_nwA ho3
  rw [← eM14, ← eq15]
  obtain ⟨M16, eM16⟩ : ∃ z, z = wR M14 x0 4 (some q15) := ⟨_, rfl⟩
  have H := H _ eM16
  refine xt_putR dX1_init_40 (flX1_25 rfl) ft_3_4 rfl ho3.1 ho3.2 ?_
  have ho3 : ok M16 x0 3 := by rw [eM16]; exact ho3
  rw [← eM16]
  refine xt_aload_n (j := 0) dX1_init_43 rfl rfl ?_
  refine xt_bipush (v := 6) dX1_init_44 (by decide) ?_
  obtain ⟨hn, hy, H⟩ := H
  obtain ⟨M17, eM17⟩ : ∃ z, z = nwA M16 21 ((6 : Int32).toNatClampNeg) := ⟨_, rfl⟩
  obtain ⟨q18, eq18⟩ : ∃ z, z = mN M16 := ⟨_, rfl⟩
  have H := H _ _ eq18 eM17
  refine xt_newI dX1_init_46 ac_I hn rfl hy ?_
  have ho3 : ok M17 x0 3 := by rw [eM17]; exact ok_nwA ho3
  rw [← eM17, ← eq18]
  obtain ⟨M19, eM19⟩ : ∃ z, z = wR M17 x0 5 (some q18) := ⟨_, rfl⟩
  have H := H _ eM19
  refine xt_putR dX1_init_48 (flX1_28 rfl) ft_3_5 rfl ho3.1 ho3.2 ?_
  have ho3 : ok M19 x0 3 := by rw [eM19]; exact ho3
  rw [← eM19]
  refine xt_aload_n (j := 0) dX1_init_51 rfl rfl ?_
  obtain ⟨M20, eM20⟩ : ∃ z, z = nwO M19 1 3 := ⟨_, rfl⟩
  obtain ⟨q21, eq21⟩ : ∃ z, z = mN M19 := ⟨_, rfl⟩
  have H := H _ _ eq21 eM20
  refine xt_new dX1_init_52 (nlX1_31 rfl) ?_
  show T _ _ _ _ (.ref (mN M19) :: [.ref x0]) (nwO M19 1 3) _
  have ho3 : ok M20 x0 3 := by rw [eM20]; exact ok_nwO ho3
  rw [← eM20, ← eq21]
  refine xt_dup dX1_init_55 rfl ?_
  refine xt_callI (h2 := h) (as := []) (st := [.ref q21, .ref x0]) dX1_init_56 (mlX1_33 rfl) rfl (by first | decide | (simp [Value.category]; done)) (Nat.le_refl _) H (fun r M22 HH hE => ?_)
  obtain ⟨hr, H⟩ := HH hE
  subst hr
  have ho3 := ok_E ho3 hE
  show T _ _ _ _ [.ref q21, .ref x0] _ _
  obtain ⟨M23, eM23⟩ : ∃ z, z = wR M22 x0 6 (some q21) := ⟨_, rfl⟩
  have H := H _ eM23
  refine xt_putR dX1_init_59 (flX1_34 rfl) ft_3_6 rfl ho3.1 ho3.2 ?_
  have ho3 : ok M23 x0 3 := by rw [eM23]; exact ho3
  rw [← eM23]
  refine xt_aload_n (j := 0) dX1_init_62 rfl rfl ?_
  obtain ⟨M24, eM24⟩ : ∃ z, z = nwO M23 2 17 := ⟨_, rfl⟩
  obtain ⟨q25, eq25⟩ : ∃ z, z = mN M23 := ⟨_, rfl⟩
  have H := H _ _ eq25 eM24
  refine xt_new dX1_init_63 (nlX1_38 rfl) ?_
  show T _ _ _ _ (.ref (mN M23) :: [.ref x0]) (nwO M23 2 17) _
  have ho3 : ok M24 x0 3 := by rw [eM24]; exact ok_nwO ho3
  rw [← eM24, ← eq25]
  refine xt_dup dX1_init_66 rfl ?_
  refine xt_callI (h2 := h) (as := []) (st := [.ref q25, .ref x0]) dX1_init_67 (mlX1_40 rfl) rfl (by first | decide | (simp [Value.category]; done)) (Nat.le_refl _) H (fun r M26 HH hE => ?_)
  obtain ⟨hr, H⟩ := HH hE
  subst hr
  have ho3 := ok_E ho3 hE
  show T _ _ _ _ [.ref q25, .ref x0] _ _
  obtain ⟨M27, eM27⟩ : ∃ z, z = wR M26 x0 7 (some q25) := ⟨_, rfl⟩
  have H := H _ eM27
  refine xt_putR dX1_init_70 (flX1_41 rfl) ft_3_7 rfl ho3.1 ho3.2 ?_
  have ho3 : ok M27 x0 3 := by rw [eM27]; exact ho3
  rw [← eM27]
  refine xt_aload_n (j := 0) dX1_init_73 rfl rfl ?_
  obtain ⟨M28, eM28⟩ : ∃ z, z = nwO M27 8 5 := ⟨_, rfl⟩
  obtain ⟨q29, eq29⟩ : ∃ z, z = mN M27 := ⟨_, rfl⟩
  have H := H _ _ eq29 eM28
  refine xt_new dX1_init_74 (nlX1_45 rfl) ?_
  show T _ _ _ _ (.ref (mN M27) :: [.ref x0]) (nwO M27 8 5) _
  have ho3 : ok M28 x0 3 := by rw [eM28]; exact ok_nwO ho3
  rw [← eM28, ← eq29]
  refine xt_dup dX1_init_77 rfl ?_
  refine xt_callN (h2 := h) (as := []) (st := [.ref q29, .ref x0]) dX1_init_78 (mlX1_47 rfl) rfl (by first | decide | (simp [Value.category]; done)) (Nat.le_refl _) H (fun r M30 HH hE => ?_)
  obtain ⟨hr, H⟩ := HH hE
  subst hr
  have ho3 := ok_E ho3 hE
  show T _ _ _ _ [.ref q29, .ref x0] _ _
  obtain ⟨M31, eM31⟩ : ∃ z, z = wR M30 x0 8 (some q29) := ⟨_, rfl⟩
  have H := H _ eM31
  refine xt_putR dX1_init_81 (flX1_48 rfl) ft_3_8 rfl ho3.1 ho3.2 ?_
  have ho3 : ok M31 x0 3 := by rw [eM31]; exact ho3
  rw [← eM31]
  exact xt_return dX1_init_84 rfl H
theorem KX1_init {h : Nat} {x0 : Nat} {M : Mem} {Q : Option Value → Mem → Prop} (H : DX1_init_0 h x0 M Q) : E (h + 1) mdX1_init [.ref x0] M Q := E.of (by decide) (Nat.le_of_ble_eq_true rfl) (fun _ _ _ => trivial) (VX1_init_0 H)
def DX1_signalNamed_2 (h : Nat) (x0 : Nat) (x1 : Int64) (x3 : Int32) (M : Mem) (Q : Option Value → Mem → Prop) : Prop :=
  ok M x0 3 ∧ ((mI M x0 9) ≤ x3 → Q (some (.int (-1))) M) ∧
  (¬ ((mI M x0 9) ≤ x3) → ∃ b2 : Nat, mR M x0 0 = some b2 ∧ ok M b2 23 ∧ vp_in x3 (mL M b2) ∧ (¬ (lg_cmp (mAJ M b2 (x3 : Int32).toNatClampNeg) x1) = 0 → T (h + 1) mdX1_signalNamed 2 [(0, .ref x0), (1, .long x1), (3, .int (x3 + 1))] [] M Q) ∧
  ((lg_cmp (mAJ M b2 (x3 : Int32).toNatClampNeg) x1) = 0 → Q (some (.int x3)) M))
set_option maxRecDepth 20000 in
set_option maxHeartbeats 2000000 in
theorem VX1_signalNamed_2 {h : Nat} {x0 : Nat} {x1 : Int64} {x3 : Int32} {M : Mem} {Q : Option Value → Mem → Prop} (H : DX1_signalNamed_2 h x0 x1 x3 M Q) : T (h + 1) mdX1_signalNamed 2 [(0, .ref x0), (1, .long x1), (3, .int x3)] [] M Q := by
  unfold DX1_signalNamed_2 at H
  refine xt_iload_n (j := 2) dX1_signalNamed_2 rfl rfl ?_
  refine xt_aload_n (j := 0) dX1_signalNamed_3 rfl rfl ?_
  obtain ⟨ho1, H⟩ := H
  refine xt_getI dX1_signalNamed_4 (flX1_52 rfl) ft_3_9 ho1.1 ho1.2 ?_
  refine xt_icmp_ge (tgt := 29) dX1_signalNamed_7 (by decide) (fun hc => ?_) (fun hc => ?_)
  · have H := H.1 hc
    refine xt_iconst (v := -1) dX1_signalNamed_29 (by decide) ?_
    exact xt_ireturn dX1_signalNamed_30 rfl H
  · have H := H.2 hc
    refine xt_aload_n (j := 0) dX1_signalNamed_10 rfl rfl ?_
    obtain ⟨b2, hb, H⟩ := H
    refine xt_getR dX1_signalNamed_11 (flX1_11 rfl) ft_3_0 ho1.1 ho1.2 hb ?_
    refine xt_iload_n (j := 2) dX1_signalNamed_14 rfl rfl ?_
    obtain ⟨ho3, H⟩ := H
    obtain ⟨hi, H⟩ := H
    refine xt_lald dX1_signalNamed_15 ho3.1 ho3.2 hi ?_
    refine xt_lload_n (j := 1) dX1_signalNamed_16 rfl rfl ?_
    refine xt_lcmp dX1_signalNamed_17 ?_
    refine xt_if_ne (tgt := 23) dX1_signalNamed_18 (by decide) (fun hc => ?_) (fun hc => ?_)
    · have H := H.1 hc
      refine xt_iinc (j := 2) (v := x3 + 1) (lv' := [(3, .int (x3 + 1)), (0, .ref x0), (1, .long x1)]) dX1_signalNamed_23 rfl (by rfl) (by decide) rfl ?_
      refine xt_goto (tgt := 2) dX1_signalNamed_26 (by decide) ?_
      exact xt_sub (lv' := [(0, .ref x0), (1, .long x1), (3, .int (x3 + 1))]) [1, 2, 0] rfl H
    · have H := H.2 hc
      refine xt_iload_n (j := 2) dX1_signalNamed_21 rfl rfl ?_
      exact xt_ireturn dX1_signalNamed_22 rfl H
def DX1_signalNamed_0 (h : Nat) (x0 : Nat) (x1 : Int64) (M : Mem) (Q : Option Value → Mem → Prop) : Prop :=
  T (h + 1) mdX1_signalNamed 2 [(0, .ref x0), (1, .long x1), (3, .int 0)] [] M Q
set_option maxRecDepth 20000 in
set_option maxHeartbeats 2000000 in
theorem VX1_signalNamed_0 {h : Nat} {x0 : Nat} {x1 : Int64} {M : Mem} {Q : Option Value → Mem → Prop} (H : DX1_signalNamed_0 h x0 x1 M Q) : T (h + 1) mdX1_signalNamed 0 [(0, .ref x0), (1, .long x1)] [] M Q := by
  unfold DX1_signalNamed_0 at H
  refine xt_iconst (v := 0) dX1_signalNamed_0 (by decide) ?_
  refine xt_istore_n (lv' := [(3, .int 0), (0, .ref x0), (1, .long x1)]) dX1_signalNamed_1 rfl (by decide) rfl ?_
  exact xt_sub (lv' := [(0, .ref x0), (1, .long x1), (3, .int 0)]) [1, 2, 0] rfl H
theorem KX1_signalNamed {h : Nat} {x0 : Nat} {x1 : Int64} {M : Mem} {Q : Option Value → Mem → Prop} (H : DX1_signalNamed_0 h x0 x1 M Q) : E (h + 1) mdX1_signalNamed [.ref x0, .long x1] M Q := E.of (by decide) (Nat.le_of_ble_eq_true rfl) (fun _ _ _ => trivial) (VX1_signalNamed_0 H)
def DX1_variableNamed_2 (h : Nat) (x0 : Nat) (x1 : Int64) (x3 : Int32) (M : Mem) (Q : Option Value → Mem → Prop) : Prop :=
  ok M x0 3 ∧ ((mI M x0 12) ≤ x3 → Q (some (.int (-1))) M) ∧
  (¬ ((mI M x0 12) ≤ x3) → ∃ b2 : Nat, mR M x0 4 = some b2 ∧ ok M b2 23 ∧ vp_in x3 (mL M b2) ∧ (¬ (lg_cmp (mAJ M b2 (x3 : Int32).toNatClampNeg) x1) = 0 → T (h + 1) mdX1_variableNamed 2 [(0, .ref x0), (1, .long x1), (3, .int (x3 + 1))] [] M Q) ∧
  ((lg_cmp (mAJ M b2 (x3 : Int32).toNatClampNeg) x1) = 0 → Q (some (.int x3)) M))
set_option maxRecDepth 20000 in
set_option maxHeartbeats 2000000 in
theorem VX1_variableNamed_2 {h : Nat} {x0 : Nat} {x1 : Int64} {x3 : Int32} {M : Mem} {Q : Option Value → Mem → Prop} (H : DX1_variableNamed_2 h x0 x1 x3 M Q) : T (h + 1) mdX1_variableNamed 2 [(0, .ref x0), (1, .long x1), (3, .int x3)] [] M Q := by
  unfold DX1_variableNamed_2 at H
  refine xt_iload_n (j := 2) dX1_variableNamed_2 rfl rfl ?_
  refine xt_aload_n (j := 0) dX1_variableNamed_3 rfl rfl ?_
  obtain ⟨ho1, H⟩ := H
  refine xt_getI dX1_variableNamed_4 (flX1_56 rfl) ft_3_12 ho1.1 ho1.2 ?_
  refine xt_icmp_ge (tgt := 29) dX1_variableNamed_7 (by decide) (fun hc => ?_) (fun hc => ?_)
  · have H := H.1 hc
    refine xt_iconst (v := -1) dX1_variableNamed_29 (by decide) ?_
    exact xt_ireturn dX1_variableNamed_30 rfl H
  · have H := H.2 hc
    refine xt_aload_n (j := 0) dX1_variableNamed_10 rfl rfl ?_
    obtain ⟨b2, hb, H⟩ := H
    refine xt_getR dX1_variableNamed_11 (flX1_25 rfl) ft_3_4 ho1.1 ho1.2 hb ?_
    refine xt_iload_n (j := 2) dX1_variableNamed_14 rfl rfl ?_
    obtain ⟨ho3, H⟩ := H
    obtain ⟨hi, H⟩ := H
    refine xt_lald dX1_variableNamed_15 ho3.1 ho3.2 hi ?_
    refine xt_lload_n (j := 1) dX1_variableNamed_16 rfl rfl ?_
    refine xt_lcmp dX1_variableNamed_17 ?_
    refine xt_if_ne (tgt := 23) dX1_variableNamed_18 (by decide) (fun hc => ?_) (fun hc => ?_)
    · have H := H.1 hc
      refine xt_iinc (j := 2) (v := x3 + 1) (lv' := [(3, .int (x3 + 1)), (0, .ref x0), (1, .long x1)]) dX1_variableNamed_23 rfl (by rfl) (by decide) rfl ?_
      refine xt_goto (tgt := 2) dX1_variableNamed_26 (by decide) ?_
      exact xt_sub (lv' := [(0, .ref x0), (1, .long x1), (3, .int (x3 + 1))]) [1, 2, 0] rfl H
    · have H := H.2 hc
      refine xt_iload_n (j := 2) dX1_variableNamed_21 rfl rfl ?_
      exact xt_ireturn dX1_variableNamed_22 rfl H
def DX1_variableNamed_0 (h : Nat) (x0 : Nat) (x1 : Int64) (M : Mem) (Q : Option Value → Mem → Prop) : Prop :=
  T (h + 1) mdX1_variableNamed 2 [(0, .ref x0), (1, .long x1), (3, .int 0)] [] M Q
set_option maxRecDepth 20000 in
set_option maxHeartbeats 2000000 in
theorem VX1_variableNamed_0 {h : Nat} {x0 : Nat} {x1 : Int64} {M : Mem} {Q : Option Value → Mem → Prop} (H : DX1_variableNamed_0 h x0 x1 M Q) : T (h + 1) mdX1_variableNamed 0 [(0, .ref x0), (1, .long x1)] [] M Q := by
  unfold DX1_variableNamed_0 at H
  refine xt_iconst (v := 0) dX1_variableNamed_0 (by decide) ?_
  refine xt_istore_n (lv' := [(3, .int 0), (0, .ref x0), (1, .long x1)]) dX1_variableNamed_1 rfl (by decide) rfl ?_
  exact xt_sub (lv' := [(0, .ref x0), (1, .long x1), (3, .int 0)]) [1, 2, 0] rfl H
theorem KX1_variableNamed {h : Nat} {x0 : Nat} {x1 : Int64} {M : Mem} {Q : Option Value → Mem → Prop} (H : DX1_variableNamed_0 h x0 x1 M Q) : E (h + 1) mdX1_variableNamed [.ref x0, .long x1] M Q := E.of (by decide) (Nat.le_of_ble_eq_true rfl) (fun _ _ _ => trivial) (VX1_variableNamed_0 H)
def DX1_isTold_23 (h : Nat) (s0 : Int32) (M : Mem) (Q : Option Value → Mem → Prop) : Prop :=
  (s0 = 0 ∨ s0 = 1) ∧ Q (some (.int s0)) M
set_option maxRecDepth 20000 in
set_option maxHeartbeats 2000000 in
theorem VX1_isTold_23 {h : Nat} {s0 : Int32} {M : Mem} {Q : Option Value → Mem → Prop} (H : DX1_isTold_23 h s0 M Q) : T (h + 1) mdX1_isTold 23 [] [.int s0] M Q := by
  unfold DX1_isTold_23 at H
  exact xt_zreturn dX1_isTold_23 rfl H.1 H.2
def DX1_isTold_18 (h : Nat) (M : Mem) (Q : Option Value → Mem → Prop) : Prop :=
  DX1_isTold_23 h 1 M Q
set_option maxRecDepth 20000 in
set_option maxHeartbeats 2000000 in
theorem VX1_isTold_18 {h : Nat} {M : Mem} {Q : Option Value → Mem → Prop} (H : DX1_isTold_18 h  M Q) : T (h + 1) mdX1_isTold 18 [] [] M Q := by
  unfold DX1_isTold_18 at H
  refine xt_iconst (v := 1) dX1_isTold_18 (by decide) ?_
  refine xt_goto (tgt := 23) dX1_isTold_19 (by decide) ?_
  exact xt_sub [] rfl (VX1_isTold_23 H)
def DX1_isTold_0 (h : Nat) (x0 : Nat) (x1 : Int64) (M : Mem) (Q : Option Value → Mem → Prop) : Prop :=
  ok M x0 3 ∧ E h mdX1_signalNamed [.ref x0, .long x1] M (fun r M2 => mE M M2 → ∃ r3 : Int32, r = some (.int r3) ∧ (¬ r3 = (-1) → DX1_isTold_18 h  M2 Q) ∧
  (r3 = (-1) → E h mdX1_variableNamed [.ref x0, .long x1] M2 (fun r M4 => mE M2 M4 → ∃ r5 : Int32, r = some (.int r5) ∧ (r5 = (-1) → DX1_isTold_23 h 0 M4 Q) ∧
  (¬ (r5 = (-1)) → DX1_isTold_18 h  M4 Q))))
set_option maxRecDepth 20000 in
set_option maxHeartbeats 2000000 in
theorem VX1_isTold_0 {h : Nat} {x0 : Nat} {x1 : Int64} {M : Mem} {Q : Option Value → Mem → Prop} (H : DX1_isTold_0 h x0 x1 M Q) : T (h + 1) mdX1_isTold 0 [(0, .ref x0), (1, .long x1)] [] M Q := by
  unfold DX1_isTold_0 at H
  refine xt_aload_n (j := 0) dX1_isTold_0 rfl rfl ?_
  refine xt_lload_n (j := 1) dX1_isTold_1 rfl rfl ?_
  obtain ⟨ho1, H⟩ := H
  refine xt_callV (h2 := h) (as := [.long x1]) (st := []) dX1_isTold_2 (mlX1_59 rfl) rfl ho1.1 ⟨by rw [ho1.2]; rfl, by rw [ho1.2]; decide⟩ (by first | decide | (simp [Value.category]; done)) (Nat.le_refl _) H (fun r M2 HH hE => ?_)
  obtain ⟨r3, hr, H⟩ := HH hE
  subst hr
  have ho1 := ok_E ho1 hE
  show T _ _ _ _ [.int r3] _ _
  refine xt_iconst (v := -1) dX1_isTold_5 (by decide) ?_
  refine xt_icmp_ne (tgt := 18) dX1_isTold_6 (by decide) (fun hc => ?_) (fun hc => ?_)
  · have H := H.1 hc
    exact xt_sub [] rfl (VX1_isTold_18 H)
  · have H := H.2 hc
    refine xt_aload_n (j := 0) dX1_isTold_9 rfl rfl ?_
    refine xt_lload_n (j := 1) dX1_isTold_10 rfl rfl ?_
    refine xt_callV (h2 := h) (as := [.long x1]) (st := []) dX1_isTold_11 (mlX1_63 rfl) rfl ho1.1 ⟨by rw [ho1.2]; rfl, by rw [ho1.2]; decide⟩ (by first | decide | (simp [Value.category]; done)) (Nat.le_refl _) H (fun r M4 HH hE => ?_)
    obtain ⟨r5, hr, H⟩ := HH hE
    subst hr
    have ho1 := ok_E ho1 hE
    show T _ _ _ _ [.int r5] _ _
    refine xt_iconst (v := -1) dX1_isTold_14 (by decide) ?_
    refine xt_icmp_eq (tgt := 22) dX1_isTold_15 (by decide) (fun hc => ?_) (fun hc => ?_)
    · have H := H.1 hc
      refine xt_iconst (v := 0) dX1_isTold_22 (by decide) ?_
      exact xt_sub [] rfl (VX1_isTold_23 H)
    · have H := H.2 hc
      exact xt_sub [] rfl (VX1_isTold_18 H)
theorem KX1_isTold {h : Nat} {x0 : Nat} {x1 : Int64} {M : Mem} {Q : Option Value → Mem → Prop} (H : DX1_isTold_0 h x0 x1 M Q) : E (h + 1) mdX1_isTold [.ref x0, .long x1] M Q := E.of (by decide) (Nat.le_of_ble_eq_true rfl) (fun _ _ _ => trivial) (VX1_isTold_0 H)
def DX1_isFullFor_49 (h : Nat) (s0 : Int32) (M : Mem) (Q : Option Value → Mem → Prop) : Prop :=
  (s0 = 0 ∨ s0 = 1) ∧ Q (some (.int s0)) M
set_option maxRecDepth 20000 in
set_option maxHeartbeats 2000000 in
theorem VX1_isFullFor_49 {h : Nat} {s0 : Int32} {M : Mem} {Q : Option Value → Mem → Prop} (H : DX1_isFullFor_49 h s0 M Q) : T (h + 1) mdX1_isFullFor 49 [] [.int s0] M Q := by
  unfold DX1_isFullFor_49 at H
  exact xt_zreturn dX1_isFullFor_49 rfl H.1 H.2
def DX1_isFullFor_44 (h : Nat) (M : Mem) (Q : Option Value → Mem → Prop) : Prop :=
  DX1_isFullFor_49 h 1 M Q
set_option maxRecDepth 20000 in
set_option maxHeartbeats 2000000 in
theorem VX1_isFullFor_44 {h : Nat} {M : Mem} {Q : Option Value → Mem → Prop} (H : DX1_isFullFor_44 h  M Q) : T (h + 1) mdX1_isFullFor 44 [] [] M Q := by
  unfold DX1_isFullFor_44 at H
  refine xt_iconst (v := 1) dX1_isFullFor_44 (by decide) ?_
  refine xt_goto (tgt := 49) dX1_isFullFor_45 (by decide) ?_
  exact xt_sub [] rfl (VX1_isFullFor_49 H)
def DX1_isFullFor_48 (h : Nat) (M : Mem) (Q : Option Value → Mem → Prop) : Prop :=
  DX1_isFullFor_49 h 0 M Q
set_option maxRecDepth 20000 in
set_option maxHeartbeats 2000000 in
theorem VX1_isFullFor_48 {h : Nat} {M : Mem} {Q : Option Value → Mem → Prop} (H : DX1_isFullFor_48 h  M Q) : T (h + 1) mdX1_isFullFor 48 [] [] M Q := by
  unfold DX1_isFullFor_48 at H
  refine xt_iconst (v := 0) dX1_isFullFor_48 (by decide) ?_
  exact xt_sub [] rfl (VX1_isFullFor_49 H)
def DX1_isFullFor_20 (h : Nat) (s0 : Int32) (M : Mem) (Q : Option Value → Mem → Prop) : Prop :=
  (s0 = 0 ∨ s0 = 1) ∧ Q (some (.int s0)) M
set_option maxRecDepth 20000 in
set_option maxHeartbeats 2000000 in
theorem VX1_isFullFor_20 {h : Nat} {s0 : Int32} {M : Mem} {Q : Option Value → Mem → Prop} (H : DX1_isFullFor_20 h s0 M Q) : T (h + 1) mdX1_isFullFor 20 [] [.int s0] M Q := by
  unfold DX1_isFullFor_20 at H
  exact xt_zreturn dX1_isFullFor_20 rfl H.1 H.2
def DX1_isFullFor_0 (h : Nat) (x0 : Nat) (x1 : Int32) (M : Mem) (Q : Option Value → Mem → Prop) : Prop :=
  (¬ x1 = 36 → ok M x0 3 ∧ (16 ≤ (mI M x0 9) → DX1_isFullFor_44 h  M Q) ∧
  (¬ (16 ≤ (mI M x0 9)) → (¬ x1 = 30 → DX1_isFullFor_48 h  M Q) ∧
  (x1 = 30 → ((mI M x0 10) < 4 → DX1_isFullFor_48 h  M Q) ∧
  (¬ ((mI M x0 10) < 4) → DX1_isFullFor_44 h  M Q)))) ∧
  (x1 = 36 → ok M x0 3 ∧ ((mI M x0 12) < 6 → DX1_isFullFor_20 h 0 M Q) ∧
  (¬ ((mI M x0 12) < 6) → DX1_isFullFor_20 h 1 M Q))
set_option maxRecDepth 20000 in
set_option maxHeartbeats 2000000 in
theorem VX1_isFullFor_0 {h : Nat} {x0 : Nat} {x1 : Int32} {M : Mem} {Q : Option Value → Mem → Prop} (H : DX1_isFullFor_0 h x0 x1 M Q) : T (h + 1) mdX1_isFullFor 0 [(0, .ref x0), (1, .int x1)] [] M Q := by
  unfold DX1_isFullFor_0 at H
  refine xt_iload_n (j := 1) dX1_isFullFor_0 rfl rfl ?_
  refine xt_bipush (v := 36) dX1_isFullFor_1 (by decide) ?_
  refine xt_icmp_ne (tgt := 21) dX1_isFullFor_3 (by decide) (fun hc => ?_) (fun hc => ?_)
  · have H := H.1 hc
    refine xt_aload_n (j := 0) dX1_isFullFor_21 rfl rfl ?_
    obtain ⟨ho1, H⟩ := H
    refine xt_getI dX1_isFullFor_22 (flX1_52 rfl) ft_3_9 ho1.1 ho1.2 ?_
    refine xt_bipush (v := 16) dX1_isFullFor_25 (by decide) ?_
    refine xt_icmp_ge (tgt := 44) dX1_isFullFor_27 (by decide) (fun hc => ?_) (fun hc => ?_)
    · have H := H.1 hc
      exact xt_sub [] rfl (VX1_isFullFor_44 H)
    · have H := H.2 hc
      refine xt_iload_n (j := 1) dX1_isFullFor_30 rfl rfl ?_
      refine xt_bipush (v := 30) dX1_isFullFor_31 (by decide) ?_
      refine xt_icmp_ne (tgt := 48) dX1_isFullFor_33 (by decide) (fun hc => ?_) (fun hc => ?_)
      · have H := H.1 hc
        exact xt_sub [] rfl (VX1_isFullFor_48 H)
      · have H := H.2 hc
        refine xt_aload_n (j := 0) dX1_isFullFor_36 rfl rfl ?_
        refine xt_getI dX1_isFullFor_37 (flX1_68 rfl) ft_3_10 ho1.1 ho1.2 ?_
        refine xt_iconst (v := 4) dX1_isFullFor_40 (by decide) ?_
        refine xt_icmp_lt (tgt := 48) dX1_isFullFor_41 (by decide) (fun hc => ?_) (fun hc => ?_)
        · have H := H.1 hc
          exact xt_sub [] rfl (VX1_isFullFor_48 H)
        · have H := H.2 hc
          exact xt_sub [] rfl (VX1_isFullFor_44 H)
  · have H := H.2 hc
    refine xt_aload_n (j := 0) dX1_isFullFor_6 rfl rfl ?_
    obtain ⟨ho2, H⟩ := H
    refine xt_getI dX1_isFullFor_7 (flX1_56 rfl) ft_3_12 ho2.1 ho2.2 ?_
    refine xt_bipush (v := 6) dX1_isFullFor_10 (by decide) ?_
    refine xt_icmp_lt (tgt := 19) dX1_isFullFor_12 (by decide) (fun hc => ?_) (fun hc => ?_)
    · have H := H.1 hc
      refine xt_iconst (v := 0) dX1_isFullFor_19 (by decide) ?_
      exact xt_sub [] rfl (VX1_isFullFor_20 H)
    · have H := H.2 hc
      refine xt_iconst (v := 1) dX1_isFullFor_15 (by decide) ?_
      refine xt_goto (tgt := 20) dX1_isFullFor_16 (by decide) ?_
      exact xt_sub [] rfl (VX1_isFullFor_20 H)
theorem KX1_isFullFor {h : Nat} {x0 : Nat} {x1 : Int32} {M : Mem} {Q : Option Value → Mem → Prop} (H : DX1_isFullFor_0 h x0 x1 M Q) : E (h + 1) mdX1_isFullFor [.ref x0, .int x1] M Q := E.of (by decide) (Nat.le_of_ble_eq_true rfl) (fun _ _ _ => trivial) (VX1_isFullFor_0 H)
def DX1_addSignal_90 (h : Nat) (x0 : Nat) (M : Mem) (Q : Option Value → Mem → Prop) : Prop :=
  ok M x0 3 ∧ ∀ M2 : Mem, M2 = wI M x0 9 ((mI M x0 9) + 1) →
  Q none M2
set_option maxRecDepth 20000 in
set_option maxHeartbeats 2000000 in
theorem VX1_addSignal_90 {h : Nat} {x0 : Nat} {M : Mem} {Q : Option Value → Mem → Prop} (H : DX1_addSignal_90 h x0 M Q) : T (h + 1) mdX1_addSignal 90 [(0, .ref x0)] [] M Q := by
  unfold DX1_addSignal_90 at H
  refine xt_aload_n (j := 0) dX1_addSignal_90 rfl rfl ?_
  refine xt_dup dX1_addSignal_91 rfl ?_
  obtain ⟨ho1, H⟩ := H
  refine xt_getI dX1_addSignal_92 (flX1_52 rfl) ft_3_9 ho1.1 ho1.2 ?_
  refine xt_iconst (v := 1) dX1_addSignal_95 (by decide) ?_
  refine xt_iadd dX1_addSignal_96 ?_
  obtain ⟨M2, eM2⟩ : ∃ z, z = wI M x0 9 ((mI M x0 9) + 1) := ⟨_, rfl⟩
  have H := H _ eM2
  refine xt_putI dX1_addSignal_97 (flX1_52 rfl) ty_3_9 rfl ho1.1 ho1.2 ?_
  have ho1 : ok M2 x0 3 := by rw [eM2]; exact ho1
  rw [← eM2]
  exact xt_return dX1_addSignal_100 rfl H
def DX1_addSignal_69 (h : Nat) (x0 : Nat) (x3 : Int32) (M : Mem) (Q : Option Value → Mem → Prop) : Prop :=
  (¬ x3 = 31 → DX1_addSignal_90 h x0 M Q) ∧
  (x3 = 31 → ok M x0 3 ∧ ∀ M2 : Mem, M2 = wI M x0 11 ((mI M x0 11) ||| ((1 : Int32) <<< ((mI M x0 9) &&& 31))) →
  DX1_addSignal_90 h x0 M2 Q)
set_option maxRecDepth 20000 in
set_option maxHeartbeats 2000000 in
theorem VX1_addSignal_69 {h : Nat} {x0 : Nat} {x3 : Int32} {M : Mem} {Q : Option Value → Mem → Prop} (H : DX1_addSignal_69 h x0 x3 M Q) : T (h + 1) mdX1_addSignal 69 [(0, .ref x0), (3, .int x3)] [] M Q := by
  unfold DX1_addSignal_69 at H
  refine xt_iload_n (j := 1) dX1_addSignal_69 rfl rfl ?_
  refine xt_bipush (v := 31) dX1_addSignal_70 (by decide) ?_
  refine xt_icmp_ne (tgt := 90) dX1_addSignal_72 (by decide) (fun hc => ?_) (fun hc => ?_)
  · have H := H.1 hc
    exact xt_sub [0] rfl (VX1_addSignal_90 H)
  · have H := H.2 hc
    refine xt_aload_n (j := 0) dX1_addSignal_75 rfl rfl ?_
    refine xt_dup dX1_addSignal_76 rfl ?_
    obtain ⟨ho1, H⟩ := H
    refine xt_getI dX1_addSignal_77 (flX1_79 rfl) ft_3_11 ho1.1 ho1.2 ?_
    refine xt_iconst (v := 1) dX1_addSignal_80 (by decide) ?_
    refine xt_aload_n (j := 0) dX1_addSignal_81 rfl rfl ?_
    refine xt_getI dX1_addSignal_82 (flX1_52 rfl) ft_3_9 ho1.1 ho1.2 ?_
    refine xt_ishl dX1_addSignal_85 ?_
    refine xt_ior dX1_addSignal_86 ?_
    obtain ⟨M2, eM2⟩ : ∃ z, z = wI M x0 11 ((mI M x0 11) ||| ((1 : Int32) <<< ((mI M x0 9) &&& 31))) := ⟨_, rfl⟩
    have H := H _ eM2
    refine xt_putI dX1_addSignal_87 (flX1_79 rfl) ty_3_11 rfl ho1.1 ho1.2 ?_
    have ho1 : ok M2 x0 3 := by rw [eM2]; exact ho1
    rw [← eM2]
    exact xt_sub [0] rfl (VX1_addSignal_90 H)
def DX1_addSignal_0 (h : Nat) (x0 : Nat) (x1 : Int64) (x3 : Int32) (M : Mem) (Q : Option Value → Mem → Prop) : Prop :=
  ok M x0 3 ∧ E h mdX1_isFullFor [.ref x0, .int x3] M (fun r M2 => mE M M2 → ∃ r3 : Int32, r = some (.int r3) ∧ (r3 = 0 → ∃ b4 : Nat, mR M2 x0 0 = some b4 ∧ ok M2 b4 23 ∧ vp_in (mI M2 x0 9) (mL M2 b4) ∧ ∀ M6 : Mem, M6 = wAJ M2 b4 (mI M2 x0 9 : Int32).toNatClampNeg x1 →
  ∃ b7 : Nat, mR M6 x0 1 = some b7 ∧ ok M6 b7 21 ∧ vp_in (mI M6 x0 9) (mL M6 b7) ∧ ∀ M9 : Mem, M9 = wAI M6 b7 (mI M6 x0 9 : Int32).toNatClampNeg x3 →
  ∃ b10 : Nat, mR M9 x0 7 = some b10 ∧ ok M9 b10 2 ∧ E h mdX0_addSignal [.ref b10, .int (mI M9 x0 9)] M9 (fun r M12 => mE M9 M12 → r = none ∧ (¬ x3 = 30 → DX1_addSignal_69 h x0 x3 M12 Q) ∧
  (x3 = 30 → ∃ b13 : Nat, mR M12 x0 3 = some b13 ∧ ok M12 b13 21 ∧ vp_in (mI M12 x0 10) (mL M12 b13) ∧ ∀ M15 : Mem, M15 = wAI M12 b13 (mI M12 x0 10 : Int32).toNatClampNeg (mI M12 x0 9) →
  ∀ M16 : Mem, M16 = wI M15 x0 10 ((mI M15 x0 10) + 1) →
  DX1_addSignal_69 h x0 x3 M16 Q))) ∧
  (¬ (r3 = 0) → Q none M2))
set_option maxRecDepth 20000 in
set_option maxHeartbeats 2000000 in
theorem VX1_addSignal_0 {h : Nat} {x0 : Nat} {x1 : Int64} {x3 : Int32} {M : Mem} {Q : Option Value → Mem → Prop} (H : DX1_addSignal_0 h x0 x1 x3 M Q) : T (h + 1) mdX1_addSignal 0 [(0, .ref x0), (1, .long x1), (3, .int x3)] [] M Q := by
  unfold DX1_addSignal_0 at H
  refine xt_aload_n (j := 0) dX1_addSignal_0 rfl rfl ?_
  refine xt_iload_n (j := 2) dX1_addSignal_1 rfl rfl ?_
  obtain ⟨ho1, H⟩ := H
  refine xt_callV (h2 := h) (as := [.int x3]) (st := []) dX1_addSignal_2 (mlX1_71 rfl) rfl ho1.1 ⟨by rw [ho1.2]; rfl, by rw [ho1.2]; decide⟩ (by first | decide | (simp [Value.category]; done)) (Nat.le_refl _) H (fun r M2 HH hE => ?_)
  obtain ⟨r3, hr, H⟩ := HH hE
  subst hr
  have ho1 := ok_E ho1 hE
  show T _ _ _ _ [.int r3] _ _
  refine xt_if_eq (tgt := 9) dX1_addSignal_5 (by decide) (fun hc => ?_) (fun hc => ?_)
  · have H := H.1 hc
    refine xt_aload_n (j := 0) dX1_addSignal_9 rfl rfl ?_
    obtain ⟨b4, hb, H⟩ := H
    refine xt_getR dX1_addSignal_10 (flX1_11 rfl) ft_3_0 ho1.1 ho1.2 hb ?_
    refine xt_aload_n (j := 0) dX1_addSignal_13 rfl rfl ?_
    refine xt_getI dX1_addSignal_14 (flX1_52 rfl) ft_3_9 ho1.1 ho1.2 ?_
    refine xt_lload_n (j := 1) dX1_addSignal_17 rfl rfl ?_
    obtain ⟨ho5, H⟩ := H
    obtain ⟨hi, H⟩ := H
    obtain ⟨M6, eM6⟩ : ∃ z, z = wAJ M2 b4 (mI M2 x0 9 : Int32).toNatClampNeg x1 := ⟨_, rfl⟩
    have H := H _ eM6
    refine xt_last dX1_addSignal_18 ho5.1 ho5.2 hi ?_
    have ho1 : ok M6 x0 3 := by rw [eM6]; exact ho1
    rw [← eM6]
    refine xt_aload_n (j := 0) dX1_addSignal_19 rfl rfl ?_
    obtain ⟨b7, hb, H⟩ := H
    refine xt_getR dX1_addSignal_20 (flX1_15 rfl) ft_3_1 ho1.1 ho1.2 hb ?_
    refine xt_aload_n (j := 0) dX1_addSignal_23 rfl rfl ?_
    refine xt_getI dX1_addSignal_24 (flX1_52 rfl) ft_3_9 ho1.1 ho1.2 ?_
    refine xt_iload_n (j := 2) dX1_addSignal_27 rfl rfl ?_
    obtain ⟨ho8, H⟩ := H
    obtain ⟨hi, H⟩ := H
    obtain ⟨M9, eM9⟩ : ∃ z, z = wAI M6 b7 (mI M6 x0 9 : Int32).toNatClampNeg x3 := ⟨_, rfl⟩
    have H := H _ eM9
    refine xt_iast dX1_addSignal_28 ho8.1 ho8.2 hi ?_
    have ho1 : ok M9 x0 3 := by rw [eM9]; exact ho1
    rw [← eM9]
    refine xt_aload_n (j := 0) dX1_addSignal_29 rfl rfl ?_
    obtain ⟨b10, hb, H⟩ := H
    refine xt_getR dX1_addSignal_30 (flX1_41 rfl) ft_3_7 ho1.1 ho1.2 hb ?_
    refine xt_aload_n (j := 0) dX1_addSignal_33 rfl rfl ?_
    refine xt_getI dX1_addSignal_34 (flX1_52 rfl) ft_3_9 ho1.1 ho1.2 ?_
    obtain ⟨ho11, H⟩ := H
    refine xt_callV (h2 := h) (as := [.int (mI M9 x0 9)]) (st := []) dX1_addSignal_37 (mlX1_75 rfl) rfl ho11.1 ⟨by rw [ho11.2]; rfl, by rw [ho11.2]; decide⟩ (by first | decide | (simp [Value.category]; done)) (Nat.le_refl _) H (fun r M12 HH hE => ?_)
    obtain ⟨hr, H⟩ := HH hE
    subst hr
    have ho1 := ok_E ho1 hE
    show T _ _ _ _ [] _ _
    refine xt_iload_n (j := 2) dX1_addSignal_40 rfl rfl ?_
    refine xt_bipush (v := 30) dX1_addSignal_41 (by decide) ?_
    refine xt_icmp_ne (tgt := 69) dX1_addSignal_43 (by decide) (fun hc => ?_) (fun hc => ?_)
    · have H := H.1 hc
      exact xt_sub [0, 2] rfl (VX1_addSignal_69 H)
    · have H := H.2 hc
      refine xt_aload_n (j := 0) dX1_addSignal_46 rfl rfl ?_
      obtain ⟨b13, hb, H⟩ := H
      refine xt_getR dX1_addSignal_47 (flX1_22 rfl) ft_3_3 ho1.1 ho1.2 hb ?_
      refine xt_aload_n (j := 0) dX1_addSignal_50 rfl rfl ?_
      refine xt_getI dX1_addSignal_51 (flX1_68 rfl) ft_3_10 ho1.1 ho1.2 ?_
      refine xt_aload_n (j := 0) dX1_addSignal_54 rfl rfl ?_
      refine xt_getI dX1_addSignal_55 (flX1_52 rfl) ft_3_9 ho1.1 ho1.2 ?_
      obtain ⟨ho14, H⟩ := H
      obtain ⟨hi, H⟩ := H
      obtain ⟨M15, eM15⟩ : ∃ z, z = wAI M12 b13 (mI M12 x0 10 : Int32).toNatClampNeg (mI M12 x0 9) := ⟨_, rfl⟩
      have H := H _ eM15
      refine xt_iast dX1_addSignal_58 ho14.1 ho14.2 hi ?_
      have ho1 : ok M15 x0 3 := by rw [eM15]; exact ho1
      rw [← eM15]
      refine xt_aload_n (j := 0) dX1_addSignal_59 rfl rfl ?_
      refine xt_dup dX1_addSignal_60 rfl ?_
      refine xt_getI dX1_addSignal_61 (flX1_68 rfl) ft_3_10 ho1.1 ho1.2 ?_
      refine xt_iconst (v := 1) dX1_addSignal_64 (by decide) ?_
      refine xt_iadd dX1_addSignal_65 ?_
      obtain ⟨M16, eM16⟩ : ∃ z, z = wI M15 x0 10 ((mI M15 x0 10) + 1) := ⟨_, rfl⟩
      have H := H _ eM16
      refine xt_putI dX1_addSignal_66 (flX1_68 rfl) ty_3_10 rfl ho1.1 ho1.2 ?_
      have ho1 : ok M16 x0 3 := by rw [eM16]; exact ho1
      rw [← eM16]
      exact xt_sub [0, 2] rfl (VX1_addSignal_69 H)
  · have H := H.2 hc
    exact xt_return dX1_addSignal_8 rfl H
theorem KX1_addSignal {h : Nat} {x0 : Nat} {x1 : Int64} {x3 : Int32} {M : Mem} {Q : Option Value → Mem → Prop} (H : DX1_addSignal_0 h x0 x1 x3 M Q) : E (h + 1) mdX1_addSignal [.ref x0, .long x1, .int x3] M Q := E.of (by decide) (Nat.le_of_ble_eq_true rfl) (fun _ _ _ => trivial) (VX1_addSignal_0 H)
def DX1_addVariable_0 (h : Nat) (x0 : Nat) (x1 : Int64) (M : Mem) (Q : Option Value → Mem → Prop) : Prop :=
  ok M x0 3 ∧ E h mdX1_isFullFor [.ref x0, .int 36] M (fun r M2 => mE M M2 → ∃ r3 : Int32, r = some (.int r3) ∧ (r3 = 0 → ∃ b4 : Nat, mR M2 x0 4 = some b4 ∧ ok M2 b4 23 ∧ vp_in (mI M2 x0 12) (mL M2 b4) ∧ ∀ M6 : Mem, M6 = wAJ M2 b4 (mI M2 x0 12 : Int32).toNatClampNeg x1 →
  ∀ M7 : Mem, M7 = wI M6 x0 12 ((mI M6 x0 12) + 1) →
  Q none M7) ∧
  (¬ (r3 = 0) → Q none M2))
set_option maxRecDepth 20000 in
set_option maxHeartbeats 2000000 in
theorem VX1_addVariable_0 {h : Nat} {x0 : Nat} {x1 : Int64} {M : Mem} {Q : Option Value → Mem → Prop} (H : DX1_addVariable_0 h x0 x1 M Q) : T (h + 1) mdX1_addVariable 0 [(0, .ref x0), (1, .long x1)] [] M Q := by
  unfold DX1_addVariable_0 at H
  refine xt_aload_n (j := 0) dX1_addVariable_0 rfl rfl ?_
  refine xt_bipush (v := 36) dX1_addVariable_1 (by decide) ?_
  obtain ⟨ho1, H⟩ := H
  refine xt_callV (h2 := h) (as := [.int 36]) (st := []) dX1_addVariable_3 (mlX1_71 rfl) rfl ho1.1 ⟨by rw [ho1.2]; rfl, by rw [ho1.2]; decide⟩ (by first | decide | (simp [Value.category]; done)) (Nat.le_refl _) H (fun r M2 HH hE => ?_)
  obtain ⟨r3, hr, H⟩ := HH hE
  subst hr
  have ho1 := ok_E ho1 hE
  show T _ _ _ _ [.int r3] _ _
  refine xt_if_eq (tgt := 10) dX1_addVariable_6 (by decide) (fun hc => ?_) (fun hc => ?_)
  · have H := H.1 hc
    refine xt_aload_n (j := 0) dX1_addVariable_10 rfl rfl ?_
    obtain ⟨b4, hb, H⟩ := H
    refine xt_getR dX1_addVariable_11 (flX1_25 rfl) ft_3_4 ho1.1 ho1.2 hb ?_
    refine xt_aload_n (j := 0) dX1_addVariable_14 rfl rfl ?_
    refine xt_getI dX1_addVariable_15 (flX1_56 rfl) ft_3_12 ho1.1 ho1.2 ?_
    refine xt_lload_n (j := 1) dX1_addVariable_18 rfl rfl ?_
    obtain ⟨ho5, H⟩ := H
    obtain ⟨hi, H⟩ := H
    obtain ⟨M6, eM6⟩ : ∃ z, z = wAJ M2 b4 (mI M2 x0 12 : Int32).toNatClampNeg x1 := ⟨_, rfl⟩
    have H := H _ eM6
    refine xt_last dX1_addVariable_19 ho5.1 ho5.2 hi ?_
    have ho1 : ok M6 x0 3 := by rw [eM6]; exact ho1
    rw [← eM6]
    refine xt_aload_n (j := 0) dX1_addVariable_20 rfl rfl ?_
    refine xt_dup dX1_addVariable_21 rfl ?_
    refine xt_getI dX1_addVariable_22 (flX1_56 rfl) ft_3_12 ho1.1 ho1.2 ?_
    refine xt_iconst (v := 1) dX1_addVariable_25 (by decide) ?_
    refine xt_iadd dX1_addVariable_26 ?_
    obtain ⟨M7, eM7⟩ : ∃ z, z = wI M6 x0 12 ((mI M6 x0 12) + 1) := ⟨_, rfl⟩
    have H := H _ eM7
    refine xt_putI dX1_addVariable_27 (flX1_56 rfl) ty_3_12 rfl ho1.1 ho1.2 ?_
    have ho1 : ok M7 x0 3 := by rw [eM7]; exact ho1
    rw [← eM7]
    exact xt_return dX1_addVariable_30 rfl H
  · have H := H.2 hc
    exact xt_return dX1_addVariable_9 rfl H
theorem KX1_addVariable {h : Nat} {x0 : Nat} {x1 : Int64} {M : Mem} {Q : Option Value → Mem → Prop} (H : DX1_addVariable_0 h x0 x1 M Q) : E (h + 1) mdX1_addVariable [.ref x0, .long x1] M Q := E.of (by decide) (Nat.le_of_ble_eq_true rfl) (fun _ _ _ => trivial) (VX1_addVariable_0 H)
def DX1_hasSignal_17 (h : Nat) (s0 : Int32) (M : Mem) (Q : Option Value → Mem → Prop) : Prop :=
  (s0 = 0 ∨ s0 = 1) ∧ Q (some (.int s0)) M
set_option maxRecDepth 20000 in
set_option maxHeartbeats 2000000 in
theorem VX1_hasSignal_17 {h : Nat} {s0 : Int32} {M : Mem} {Q : Option Value → Mem → Prop} (H : DX1_hasSignal_17 h s0 M Q) : T (h + 1) mdX1_hasSignal 17 [] [.int s0] M Q := by
  unfold DX1_hasSignal_17 at H
  exact xt_zreturn dX1_hasSignal_17 rfl H.1 H.2
def DX1_hasSignal_16 (h : Nat) (M : Mem) (Q : Option Value → Mem → Prop) : Prop :=
  DX1_hasSignal_17 h 0 M Q
set_option maxRecDepth 20000 in
set_option maxHeartbeats 2000000 in
theorem VX1_hasSignal_16 {h : Nat} {M : Mem} {Q : Option Value → Mem → Prop} (H : DX1_hasSignal_16 h  M Q) : T (h + 1) mdX1_hasSignal 16 [] [] M Q := by
  unfold DX1_hasSignal_16 at H
  refine xt_iconst (v := 0) dX1_hasSignal_16 (by decide) ?_
  exact xt_sub [] rfl (VX1_hasSignal_17 H)
def DX1_hasSignal_0 (h : Nat) (x0 : Nat) (x1 : Int32) (M : Mem) (Q : Option Value → Mem → Prop) : Prop :=
  (x1 < 0 → DX1_hasSignal_16 h  M Q) ∧
  (¬ (x1 < 0) → ok M x0 3 ∧ ((mI M x0 9) ≤ x1 → DX1_hasSignal_16 h  M Q) ∧
  (¬ ((mI M x0 9) ≤ x1) → DX1_hasSignal_17 h 1 M Q))
set_option maxRecDepth 20000 in
set_option maxHeartbeats 2000000 in
theorem VX1_hasSignal_0 {h : Nat} {x0 : Nat} {x1 : Int32} {M : Mem} {Q : Option Value → Mem → Prop} (H : DX1_hasSignal_0 h x0 x1 M Q) : T (h + 1) mdX1_hasSignal 0 [(0, .ref x0), (1, .int x1)] [] M Q := by
  unfold DX1_hasSignal_0 at H
  refine xt_iload_n (j := 1) dX1_hasSignal_0 rfl rfl ?_
  refine xt_if_lt (tgt := 16) dX1_hasSignal_1 (by decide) (fun hc => ?_) (fun hc => ?_)
  · have H := H.1 hc
    exact xt_sub [] rfl (VX1_hasSignal_16 H)
  · have H := H.2 hc
    refine xt_iload_n (j := 1) dX1_hasSignal_4 rfl rfl ?_
    refine xt_aload_n (j := 0) dX1_hasSignal_5 rfl rfl ?_
    obtain ⟨ho1, H⟩ := H
    refine xt_getI dX1_hasSignal_6 (flX1_52 rfl) ft_3_9 ho1.1 ho1.2 ?_
    refine xt_icmp_ge (tgt := 16) dX1_hasSignal_9 (by decide) (fun hc => ?_) (fun hc => ?_)
    · have H := H.1 hc
      exact xt_sub [] rfl (VX1_hasSignal_16 H)
    · have H := H.2 hc
      refine xt_iconst (v := 1) dX1_hasSignal_12 (by decide) ?_
      refine xt_goto (tgt := 17) dX1_hasSignal_13 (by decide) ?_
      exact xt_sub [] rfl (VX1_hasSignal_17 H)
theorem KX1_hasSignal {h : Nat} {x0 : Nat} {x1 : Int32} {M : Mem} {Q : Option Value → Mem → Prop} (H : DX1_hasSignal_0 h x0 x1 M Q) : E (h + 1) mdX1_hasSignal [.ref x0, .int x1] M Q := E.of (by decide) (Nat.le_of_ble_eq_true rfl) (fun _ _ _ => trivial) (VX1_hasSignal_0 H)
def DX1_hasPart_20 (h : Nat) (s0 : Int32) (M : Mem) (Q : Option Value → Mem → Prop) : Prop :=
  (s0 = 0 ∨ s0 = 1) ∧ Q (some (.int s0)) M
set_option maxRecDepth 20000 in
set_option maxHeartbeats 2000000 in
theorem VX1_hasPart_20 {h : Nat} {s0 : Int32} {M : Mem} {Q : Option Value → Mem → Prop} (H : DX1_hasPart_20 h s0 M Q) : T (h + 1) mdX1_hasPart 20 [] [.int s0] M Q := by
  unfold DX1_hasPart_20 at H
  exact xt_zreturn dX1_hasPart_20 rfl H.1 H.2
def DX1_hasPart_19 (h : Nat) (M : Mem) (Q : Option Value → Mem → Prop) : Prop :=
  DX1_hasPart_20 h 0 M Q
set_option maxRecDepth 20000 in
set_option maxHeartbeats 2000000 in
theorem VX1_hasPart_19 {h : Nat} {M : Mem} {Q : Option Value → Mem → Prop} (H : DX1_hasPart_19 h  M Q) : T (h + 1) mdX1_hasPart 19 [] [] M Q := by
  unfold DX1_hasPart_19 at H
  refine xt_iconst (v := 0) dX1_hasPart_19 (by decide) ?_
  exact xt_sub [] rfl (VX1_hasPart_20 H)
def DX1_hasPart_0 (h : Nat) (x0 : Nat) (x1 : Int32) (M : Mem) (Q : Option Value → Mem → Prop) : Prop :=
  (x1 < 0 → DX1_hasPart_19 h  M Q) ∧
  (¬ (x1 < 0) → ok M x0 3 ∧ ∃ b2 : Nat, mR M x0 6 = some b2 ∧ ok M b2 1 ∧ E h mdJx4a65c_size_8abf5 [.ref b2] M (fun r M4 => mE M M4 → ∃ r5 : Int32, r = some (.int r5) ∧ (r5 ≤ x1 → DX1_hasPart_19 h  M4 Q) ∧
  (¬ (r5 ≤ x1) → DX1_hasPart_20 h 1 M4 Q)))
set_option maxRecDepth 20000 in
set_option maxHeartbeats 2000000 in
theorem VX1_hasPart_0 {h : Nat} {x0 : Nat} {x1 : Int32} {M : Mem} {Q : Option Value → Mem → Prop} (H : DX1_hasPart_0 h x0 x1 M Q) : T (h + 1) mdX1_hasPart 0 [(0, .ref x0), (1, .int x1)] [] M Q := by
  unfold DX1_hasPart_0 at H
  refine xt_iload_n (j := 1) dX1_hasPart_0 rfl rfl ?_
  refine xt_if_lt (tgt := 19) dX1_hasPart_1 (by decide) (fun hc => ?_) (fun hc => ?_)
  · have H := H.1 hc
    exact xt_sub [] rfl (VX1_hasPart_19 H)
  · have H := H.2 hc
    refine xt_iload_n (j := 1) dX1_hasPart_4 rfl rfl ?_
    refine xt_aload_n (j := 0) dX1_hasPart_5 rfl rfl ?_
    obtain ⟨ho1, H⟩ := H
    obtain ⟨b2, hb, H⟩ := H
    refine xt_getR dX1_hasPart_6 (flX1_34 rfl) ft_3_6 ho1.1 ho1.2 hb ?_
    obtain ⟨ho3, H⟩ := H
    refine xt_callV (h2 := h) (as := []) (st := [.int x1]) dX1_hasPart_9 (mlX1_82 rfl) rfl ho3.1 ⟨by rw [ho3.2]; rfl, by rw [ho3.2]; decide⟩ (by first | decide | (simp [Value.category]; done)) (Nat.le_refl _) H (fun r M4 HH hE => ?_)
    obtain ⟨r5, hr, H⟩ := HH hE
    subst hr
    have ho1 := ok_E ho1 hE
    show T _ _ _ _ [.int r5, .int x1] _ _
    refine xt_icmp_ge (tgt := 19) dX1_hasPart_12 (by decide) (fun hc => ?_) (fun hc => ?_)
    · have H := H.1 hc
      exact xt_sub [] rfl (VX1_hasPart_19 H)
    · have H := H.2 hc
      refine xt_iconst (v := 1) dX1_hasPart_15 (by decide) ?_
      refine xt_goto (tgt := 20) dX1_hasPart_16 (by decide) ?_
      exact xt_sub [] rfl (VX1_hasPart_20 H)
theorem KX1_hasPart {h : Nat} {x0 : Nat} {x1 : Int32} {M : Mem} {Q : Option Value → Mem → Prop} (H : DX1_hasPart_0 h x0 x1 M Q) : E (h + 1) mdX1_hasPart [.ref x0, .int x1] M Q := E.of (by decide) (Nat.le_of_ble_eq_true rfl) (fun _ _ _ => trivial) (VX1_hasPart_0 H)
def DX2_hasEnded_14 (h : Nat) (s0 : Int32) (M : Mem) (Q : Option Value → Mem → Prop) : Prop :=
  (s0 = 0 ∨ s0 = 1) ∧ Q (some (.int s0)) M
set_option maxRecDepth 20000 in
set_option maxHeartbeats 2000000 in
theorem VX2_hasEnded_14 {h : Nat} {s0 : Int32} {M : Mem} {Q : Option Value → Mem → Prop} (H : DX2_hasEnded_14 h s0 M Q) : T (h + 1) mdX2_hasEnded 14 [] [.int s0] M Q := by
  unfold DX2_hasEnded_14 at H
  exact xt_zreturn dX2_hasEnded_14 rfl H.1 H.2
def DX2_hasEnded_0 (h : Nat) (x0 : Nat) (M : Mem) (Q : Option Value → Mem → Prop) : Prop :=
  ok M x0 4 ∧ ∃ b2 : Nat, mR M x0 2 = some b2 ∧ ok M b2 21 ∧ vp_in 3 (mL M b2) ∧ ((mAI M b2 (3 : Int32).toNatClampNeg) = 0 → DX2_hasEnded_14 h 0 M Q) ∧
  (¬ ((mAI M b2 (3 : Int32).toNatClampNeg) = 0) → DX2_hasEnded_14 h 1 M Q)
set_option maxRecDepth 20000 in
set_option maxHeartbeats 2000000 in
theorem VX2_hasEnded_0 {h : Nat} {x0 : Nat} {M : Mem} {Q : Option Value → Mem → Prop} (H : DX2_hasEnded_0 h x0 M Q) : T (h + 1) mdX2_hasEnded 0 [(0, .ref x0)] [] M Q := by
  unfold DX2_hasEnded_0 at H
  refine xt_aload_n (j := 0) dX2_hasEnded_0 rfl rfl ?_
  obtain ⟨ho1, H⟩ := H
  obtain ⟨b2, hb, H⟩ := H
  refine xt_getR dX2_hasEnded_1 (flX2_13 rfl) ft_4_2 ho1.1 ho1.2 hb ?_
  refine xt_iconst (v := 3) dX2_hasEnded_4 (by decide) ?_
  obtain ⟨ho3, H⟩ := H
  obtain ⟨hi, H⟩ := H
  refine xt_iald dX2_hasEnded_5 ho3.1 ho3.2 hi ?_
  refine xt_if_eq (tgt := 13) dX2_hasEnded_6 (by decide) (fun hc => ?_) (fun hc => ?_)
  · have H := H.1 hc
    refine xt_iconst (v := 0) dX2_hasEnded_13 (by decide) ?_
    exact xt_sub [] rfl (VX2_hasEnded_14 H)
  · have H := H.2 hc
    refine xt_iconst (v := 1) dX2_hasEnded_9 (by decide) ?_
    refine xt_goto (tgt := 14) dX2_hasEnded_10 (by decide) ?_
    exact xt_sub [] rfl (VX2_hasEnded_14 H)
theorem KX2_hasEnded {h : Nat} {x0 : Nat} {M : Mem} {Q : Option Value → Mem → Prop} (H : DX2_hasEnded_0 h x0 M Q) : E (h + 1) mdX2_hasEnded [.ref x0] M Q := E.of (by decide) (Nat.le_of_ble_eq_true rfl) (fun _ _ _ => trivial) (VX2_hasEnded_0 H)
def DX2_take_26 (h : Nat) (x0 : Nat) (x1 : Int32) (x3 : Int32) (s0 : Nat) (s1 : Int32) (M : Mem) (Q : Option Value → Mem → Prop) : Prop :=
  ok M s0 4 ∧ ∀ M2 : Mem, M2 = wI M s0 6 s1 →
  ok M2 x0 4 ∧ ∃ b4 : Nat, mR M2 x0 7 = some b4 ∧ ok M2 b4 21 ∧ vp_in x1 (mL M2 b4) ∧ ∀ M6 : Mem, M6 = wAI M2 b4 (x1 : Int32).toNatClampNeg x3 →
  Q none M6
set_option maxRecDepth 20000 in
set_option maxHeartbeats 2000000 in
theorem VX2_take_26 {h : Nat} {x0 : Nat} {x1 : Int32} {x3 : Int32} {s0 : Nat} {s1 : Int32} {M : Mem} {Q : Option Value → Mem → Prop} (H : DX2_take_26 h x0 x1 x3 s0 s1 M Q) : T (h + 1) mdX2_take 26 [(0, .ref x0), (1, .int x1), (3, .int x3)] [.int s1, .ref s0] M Q := by
  unfold DX2_take_26 at H
  obtain ⟨ho1, H⟩ := H
  obtain ⟨M2, eM2⟩ : ∃ z, z = wI M s0 6 s1 := ⟨_, rfl⟩
  have H := H _ eM2
  refine xt_putI dX2_take_26 (flX2_61 rfl) ty_4_6 rfl ho1.1 ho1.2 ?_
  rw [← eM2]
  refine xt_aload_n (j := 0) dX2_take_29 rfl rfl ?_
  obtain ⟨ho3, H⟩ := H
  obtain ⟨b4, hb, H⟩ := H
  refine xt_getR dX2_take_30 (flX2_25 rfl) ft_4_7 ho3.1 ho3.2 hb ?_
  refine xt_iload_n (j := 1) dX2_take_33 rfl rfl ?_
  refine xt_iload_n (j := 2) dX2_take_34 rfl rfl ?_
  obtain ⟨ho5, H⟩ := H
  obtain ⟨hi, H⟩ := H
  obtain ⟨M6, eM6⟩ : ∃ z, z = wAI M2 b4 (x1 : Int32).toNatClampNeg x3 := ⟨_, rfl⟩
  have H := H _ eM6
  refine xt_iast dX2_take_35 ho5.1 ho5.2 hi ?_
  have ho3 : ok M6 x0 4 := by rw [eM6]; exact ho3
  rw [← eM6]
  exact xt_return dX2_take_36 rfl H
def DX2_take_0 (h : Nat) (x0 : Nat) (x1 : Int32) (x2 : Int32) (x3 : Int32) (M : Mem) (Q : Option Value → Mem → Prop) : Prop :=
  (x2 = 0 → ok M x0 4 ∧ DX2_take_26 h x0 x1 x3 x0 ((mI M x0 6) &&& (((1 : Int32) <<< (x1 &&& 31)) ^^^ (-1))) M Q) ∧
  (¬ (x2 = 0) → ok M x0 4 ∧ DX2_take_26 h x0 x1 x3 x0 ((mI M x0 6) ||| ((1 : Int32) <<< (x1 &&& 31))) M Q)
set_option maxRecDepth 20000 in
set_option maxHeartbeats 2000000 in
theorem VX2_take_0 {h : Nat} {x0 : Nat} {x1 : Int32} {x2 : Int32} {x3 : Int32} {M : Mem} {Q : Option Value → Mem → Prop} (H : DX2_take_0 h x0 x1 x2 x3 M Q) : T (h + 1) mdX2_take 0 [(0, .ref x0), (1, .int x1), (2, .int x2), (3, .int x3)] [] M Q := by
  unfold DX2_take_0 at H
  refine xt_aload_n (j := 0) dX2_take_0 rfl rfl ?_
  refine xt_iload_n (j := 2) dX2_take_1 rfl rfl ?_
  refine xt_if_eq (tgt := 16) dX2_take_2 (by decide) (fun hc => ?_) (fun hc => ?_)
  · have H := H.1 hc
    refine xt_aload_n (j := 0) dX2_take_16 rfl rfl ?_
    obtain ⟨ho1, H⟩ := H
    refine xt_getI dX2_take_17 (flX2_61 rfl) ft_4_6 ho1.1 ho1.2 ?_
    refine xt_iconst (v := 1) dX2_take_20 (by decide) ?_
    refine xt_iload_n (j := 1) dX2_take_21 rfl rfl ?_
    refine xt_ishl dX2_take_22 ?_
    refine xt_iconst (v := -1) dX2_take_23 (by decide) ?_
    refine xt_ixor dX2_take_24 ?_
    refine xt_iand dX2_take_25 ?_
    exact xt_sub [0, 1, 3] rfl (VX2_take_26 H)
  · have H := H.2 hc
    refine xt_aload_n (j := 0) dX2_take_5 rfl rfl ?_
    obtain ⟨ho2, H⟩ := H
    refine xt_getI dX2_take_6 (flX2_61 rfl) ft_4_6 ho2.1 ho2.2 ?_
    refine xt_iconst (v := 1) dX2_take_9 (by decide) ?_
    refine xt_iload_n (j := 1) dX2_take_10 rfl rfl ?_
    refine xt_ishl dX2_take_11 ?_
    refine xt_ior dX2_take_12 ?_
    refine xt_goto (tgt := 26) dX2_take_13 (by decide) ?_
    exact xt_sub [0, 1, 3] rfl (VX2_take_26 H)
theorem KX2_take {h : Nat} {x0 : Nat} {x1 : Int32} {x2 : Int32} {x3 : Int32} {M : Mem} {Q : Option Value → Mem → Prop} (H : DX2_take_0 h x0 x1 x2 x3 M Q) : E (h + 1) mdX2_take [.ref x0, .int x1, .int x2, .int x3] M Q := E.of (by decide) (Nat.le_of_ble_eq_true rfl) (fun _ _ _ => trivial) (VX2_take_0 H)
def DX2_react_76 (h : Nat) (x0 : Nat) (M : Mem) (Q : Option Value → Mem → Prop) : Prop :=
  ok M x0 4 ∧ ∀ M2 : Mem, M2 = wI M x0 6 0 →
  Q (some (.int (mI M2 x0 11))) M2
set_option maxRecDepth 20000 in
set_option maxHeartbeats 2000000 in
theorem VX2_react_76 {h : Nat} {x0 : Nat} {M : Mem} {Q : Option Value → Mem → Prop} (H : DX2_react_76 h x0 M Q) : T (h + 1) mdX2_react 76 [(0, .ref x0)] [] M Q := by
  unfold DX2_react_76 at H
  refine xt_aload_n (j := 0) dX2_react_76 rfl rfl ?_
  refine xt_iconst (v := 0) dX2_react_77 (by decide) ?_
  obtain ⟨ho1, H⟩ := H
  obtain ⟨M2, eM2⟩ : ∃ z, z = wI M x0 6 0 := ⟨_, rfl⟩
  have H := H _ eM2
  refine xt_putI dX2_react_78 (flX2_61 rfl) ty_4_6 rfl ho1.1 ho1.2 ?_
  have ho1 : ok M2 x0 4 := by rw [eM2]; exact ho1
  rw [← eM2]
  refine xt_aload_n (j := 0) dX2_react_81 rfl rfl ?_
  refine xt_getI dX2_react_82 (flX2_28 rfl) ft_4_11 ho1.1 ho1.2 ?_
  exact xt_ireturn dX2_react_85 rfl H
def DX2_react_39 (h : Nat) (x0 : Nat) (x1 : Nat) (s0 : Nat) (s1 : Int32) (s2 : Int32) (s3 : Int32) (M : Mem) (Q : Option Value → Mem → Prop) : Prop :=
  ok M s0 2 ∧ E h mdX0_stand [.ref s0, .int s1, .int s2, .int s3] M (fun r M2 => mE M M2 → r = none ∧ ok M2 x0 4 ∧ E h mdX2_tellMoves [.ref x0, .ref x1] M2 (fun r M4 => mE M2 M4 → r = none ∧ ok M4 x1 2 ∧ E h mdX0_settle [.ref x1] M4 (fun r M6 => mE M4 M6 → r = none ∧ E h mdX2_recordWires [.ref x0, .ref x1] M6 (fun r M7 => mE M6 M7 → r = none ∧ E h mdX0_stuckLanes [.ref x1] M7 (fun r M8 => mE M7 M8 → ∃ r9 : Int32, r = some (.int r9) ∧ (r9 = 0 → E h mdX2_workBeat [.ref x0, .ref x1] M8 (fun r M10 => mE M8 M10 → r = none ∧ DX2_react_76 h x0 M10 Q)) ∧
  (¬ (r9 = 0) → ∀ M11 : Mem, M11 = wI M8 x0 11 3 →
  DX2_react_76 h x0 M11 Q))))))
set_option maxRecDepth 20000 in
set_option maxHeartbeats 2000000 in
theorem VX2_react_39 {h : Nat} {x0 : Nat} {x1 : Nat} {s0 : Nat} {s1 : Int32} {s2 : Int32} {s3 : Int32} {M : Mem} {Q : Option Value → Mem → Prop} (H : DX2_react_39 h x0 x1 s0 s1 s2 s3 M Q) : T (h + 1) mdX2_react 39 [(0, .ref x0), (1, .ref x1)] [.int s3, .int s2, .int s1, .ref s0] M Q := by
  unfold DX2_react_39 at H
  obtain ⟨ho1, H⟩ := H
  refine xt_callV (h2 := h) (as := [.int s1, .int s2, .int s3]) (st := []) dX2_react_39 (mlX2_71 rfl) rfl ho1.1 ⟨by rw [ho1.2]; rfl, by rw [ho1.2]; decide⟩ (by first | decide | (simp [Value.category]; done)) (Nat.le_refl _) H (fun r M2 HH hE => ?_)
  obtain ⟨hr, H⟩ := HH hE
  subst hr
  show T _ _ _ _ [] _ _
  refine xt_aload_n (j := 0) dX2_react_42 rfl rfl ?_
  refine xt_aload_n (j := 1) dX2_react_43 rfl rfl ?_
  obtain ⟨ho3, H⟩ := H
  refine xt_callV (h2 := h) (as := [.ref x1]) (st := []) dX2_react_44 (mlX2_77 rfl) rfl ho3.1 ⟨by rw [ho3.2]; rfl, by rw [ho3.2]; decide⟩ (by first | decide | (simp [Value.category]; done)) (Nat.le_refl _) H (fun r M4 HH hE => ?_)
  obtain ⟨hr, H⟩ := HH hE
  subst hr
  have ho3 := ok_E ho3 hE
  show T _ _ _ _ [] _ _
  refine xt_aload_n (j := 1) dX2_react_47 rfl rfl ?_
  obtain ⟨ho5, H⟩ := H
  refine xt_callV (h2 := h) (as := []) (st := []) dX2_react_48 (mlX2_81 rfl) rfl ho5.1 ⟨by rw [ho5.2]; rfl, by rw [ho5.2]; decide⟩ (by first | decide | (simp [Value.category]; done)) (Nat.le_refl _) H (fun r M6 HH hE => ?_)
  obtain ⟨hr, H⟩ := HH hE
  subst hr
  have ho3 := ok_E ho3 hE
  have ho5 := ok_E ho5 hE
  show T _ _ _ _ [] _ _
  refine xt_aload_n (j := 0) dX2_react_51 rfl rfl ?_
  refine xt_aload_n (j := 1) dX2_react_52 rfl rfl ?_
  refine xt_callV (h2 := h) (as := [.ref x1]) (st := []) dX2_react_53 (mlX2_84 rfl) rfl ho3.1 ⟨by rw [ho3.2]; rfl, by rw [ho3.2]; decide⟩ (by first | decide | (simp [Value.category]; done)) (Nat.le_refl _) H (fun r M7 HH hE => ?_)
  obtain ⟨hr, H⟩ := HH hE
  subst hr
  have ho3 := ok_E ho3 hE
  have ho5 := ok_E ho5 hE
  show T _ _ _ _ [] _ _
  refine xt_aload_n (j := 1) dX2_react_56 rfl rfl ?_
  refine xt_callV (h2 := h) (as := []) (st := []) dX2_react_57 (mlX2_87 rfl) rfl ho5.1 ⟨by rw [ho5.2]; rfl, by rw [ho5.2]; decide⟩ (by first | decide | (simp [Value.category]; done)) (Nat.le_refl _) H (fun r M8 HH hE => ?_)
  obtain ⟨r9, hr, H⟩ := HH hE
  subst hr
  have ho3 := ok_E ho3 hE
  have ho5 := ok_E ho5 hE
  show T _ _ _ _ [.int r9] _ _
  refine xt_if_eq (tgt := 71) dX2_react_60 (by decide) (fun hc => ?_) (fun hc => ?_)
  · have H := H.1 hc
    refine xt_aload_n (j := 0) dX2_react_71 rfl rfl ?_
    refine xt_aload_n (j := 1) dX2_react_72 rfl rfl ?_
    refine xt_callV (h2 := h) (as := [.ref x1]) (st := []) dX2_react_73 (mlX2_90 rfl) rfl ho3.1 ⟨by rw [ho3.2]; rfl, by rw [ho3.2]; decide⟩ (by first | decide | (simp [Value.category]; done)) (Nat.le_refl _) H (fun r M10 HH hE => ?_)
    obtain ⟨hr, H⟩ := HH hE
    subst hr
    have ho3 := ok_E ho3 hE
    have ho5 := ok_E ho5 hE
    show T _ _ _ _ [] _ _
    exact xt_sub [0] rfl (VX2_react_76 H)
  · have H := H.2 hc
    refine xt_aload_n (j := 0) dX2_react_63 rfl rfl ?_
    refine xt_iconst (v := 3) dX2_react_64 (by decide) ?_
    obtain ⟨M11, eM11⟩ : ∃ z, z = wI M8 x0 11 3 := ⟨_, rfl⟩
    have H := H _ eM11
    refine xt_putI dX2_react_65 (flX2_28 rfl) ty_4_11 rfl ho3.1 ho3.2 ?_
    have ho3 : ok M11 x0 4 := by rw [eM11]; exact ho3
    have ho5 : ok M11 x1 2 := by rw [eM11]; exact ho5
    rw [← eM11]
    refine xt_goto (tgt := 76) dX2_react_68 (by decide) ?_
    exact xt_sub [0] rfl (VX2_react_76 H)
def DX2_react_0 (h : Nat) (x0 : Nat) (M : Mem) (Q : Option Value → Mem → Prop) : Prop :=
  ok M x0 4 ∧ ∃ b2 : Nat, mR M x0 0 = some b2 ∧ ok M b2 3 ∧ ∃ b4 : Nat, mR M b2 7 = some b4 ∧ E h mdX2_forgetBeat [.ref x0] M (fun r M5 => mE M M5 → r = none ∧ ∃ b6 : Nat, mR M5 x0 2 = some b6 ∧ ok M5 b6 21 ∧ vp_in 0 (mL M5 b6) ∧ ∃ b8 : Nat, mR M5 x0 2 = some b8 ∧ ok M5 b8 21 ∧ vp_in 1 (mL M5 b8) ∧ ∃ b10 : Nat, mR M5 x0 2 = some b10 ∧ ok M5 b10 21 ∧ vp_in 2 (mL M5 b10) ∧ (¬ (mAI M5 b10 (2 : Int32).toNatClampNeg) = 0 → DX2_react_39 h x0 b4 b4 (mAI M5 b6 (0 : Int32).toNatClampNeg) (mAI M5 b8 (1 : Int32).toNatClampNeg) 0 M5 Q) ∧
  ((mAI M5 b10 (2 : Int32).toNatClampNeg) = 0 → DX2_react_39 h x0 b4 b4 (mAI M5 b6 (0 : Int32).toNatClampNeg) (mAI M5 b8 (1 : Int32).toNatClampNeg) 1 M5 Q))
set_option maxRecDepth 20000 in
set_option maxHeartbeats 2000000 in
theorem VX2_react_0 {h : Nat} {x0 : Nat} {M : Mem} {Q : Option Value → Mem → Prop} (H : DX2_react_0 h x0 M Q) : T (h + 1) mdX2_react 0 [(0, .ref x0)] [] M Q := by
  unfold DX2_react_0 at H
  refine xt_aload_n (j := 0) dX2_react_0 rfl rfl ?_
  obtain ⟨ho1, H⟩ := H
  obtain ⟨b2, hb, H⟩ := H
  refine xt_getR dX2_react_1 (flX2_35 rfl) ft_4_0 ho1.1 ho1.2 hb ?_
  obtain ⟨ho3, H⟩ := H
  obtain ⟨b4, hb, H⟩ := H
  refine xt_getR dX2_react_4 (flX2_64 rfl) ft_3_7 ho3.1 ho3.2 hb ?_
  refine xt_astore_n (lv' := [(1, .ref b4), (0, .ref x0)]) dX2_react_7 rfl (by decide) rfl ?_
  refine xt_aload_n (j := 1) dX2_react_8 rfl rfl ?_
  refine xt_callV (h2 := h) (as := []) (st := []) dX2_react_9 (mlX2_68 rfl) rfl ho1.1 ⟨by rw [ho1.2]; rfl, by rw [ho1.2]; decide⟩ (by first | decide | (simp [Value.category]; done)) (Nat.le_refl _) H (fun r M5 HH hE => ?_)
  obtain ⟨hr, H⟩ := HH hE
  subst hr
  have ho1 := ok_E ho1 hE
  show T _ _ _ _ [] _ _
  refine xt_aload_n (j := 0) dX2_react_12 rfl rfl ?_
  refine xt_aload_n (j := 1) dX2_react_13 rfl rfl ?_
  obtain ⟨b6, hb, H⟩ := H
  refine xt_getR dX2_react_14 (flX2_13 rfl) ft_4_2 ho1.1 ho1.2 hb ?_
  refine xt_iconst (v := 0) dX2_react_17 (by decide) ?_
  obtain ⟨ho7, H⟩ := H
  obtain ⟨hi, H⟩ := H
  refine xt_iald dX2_react_18 ho7.1 ho7.2 hi ?_
  refine xt_aload_n (j := 1) dX2_react_19 rfl rfl ?_
  obtain ⟨b8, hb, H⟩ := H
  refine xt_getR dX2_react_20 (flX2_13 rfl) ft_4_2 ho1.1 ho1.2 hb ?_
  refine xt_iconst (v := 1) dX2_react_23 (by decide) ?_
  obtain ⟨ho9, H⟩ := H
  obtain ⟨hi, H⟩ := H
  refine xt_iald dX2_react_24 ho9.1 ho9.2 hi ?_
  refine xt_aload_n (j := 1) dX2_react_25 rfl rfl ?_
  obtain ⟨b10, hb, H⟩ := H
  refine xt_getR dX2_react_26 (flX2_13 rfl) ft_4_2 ho1.1 ho1.2 hb ?_
  refine xt_iconst (v := 2) dX2_react_29 (by decide) ?_
  obtain ⟨ho11, H⟩ := H
  obtain ⟨hi, H⟩ := H
  refine xt_iald dX2_react_30 ho11.1 ho11.2 hi ?_
  refine xt_if_ne (tgt := 38) dX2_react_31 (by decide) (fun hc => ?_) (fun hc => ?_)
  · have H := H.1 hc
    refine xt_iconst (v := 0) dX2_react_38 (by decide) ?_
    exact xt_sub [1, 0] rfl (VX2_react_39 H)
  · have H := H.2 hc
    refine xt_iconst (v := 1) dX2_react_34 (by decide) ?_
    refine xt_goto (tgt := 39) dX2_react_35 (by decide) ?_
    exact xt_sub [1, 0] rfl (VX2_react_39 H)
theorem KX2_react {h : Nat} {x0 : Nat} {M : Mem} {Q : Option Value → Mem → Prop} (H : DX2_react_0 h x0 M Q) : E (h + 1) mdX2_react [.ref x0] M Q := E.of (by decide) (Nat.le_of_ble_eq_true rfl) (fun _ _ _ => trivial) (VX2_react_0 H)
def DX2_forgetBeat_0 (h : Nat) (x0 : Nat) (M : Mem) (Q : Option Value → Mem → Prop) : Prop :=
  ok M x0 4 ∧ ∀ M2 : Mem, M2 = wI M x0 10 0 →
  ∀ M3 : Mem, M3 = wI M2 x0 12 0 →
  ∀ M4 : Mem, M4 = wI M3 x0 13 (-1) →
  Q none M4
set_option maxRecDepth 20000 in
set_option maxHeartbeats 2000000 in
theorem VX2_forgetBeat_0 {h : Nat} {x0 : Nat} {M : Mem} {Q : Option Value → Mem → Prop} (H : DX2_forgetBeat_0 h x0 M Q) : T (h + 1) mdX2_forgetBeat 0 [(0, .ref x0)] [] M Q := by
  unfold DX2_forgetBeat_0 at H
  refine xt_aload_n (j := 0) dX2_forgetBeat_0 rfl rfl ?_
  refine xt_iconst (v := 0) dX2_forgetBeat_1 (by decide) ?_
  obtain ⟨ho1, H⟩ := H
  obtain ⟨M2, eM2⟩ : ∃ z, z = wI M x0 10 0 := ⟨_, rfl⟩
  have H := H _ eM2
  refine xt_putI dX2_forgetBeat_2 (flX2_93 rfl) ty_4_10 rfl ho1.1 ho1.2 ?_
  have ho1 : ok M2 x0 4 := by rw [eM2]; exact ho1
  rw [← eM2]
  refine xt_aload_n (j := 0) dX2_forgetBeat_5 rfl rfl ?_
  refine xt_iconst (v := 0) dX2_forgetBeat_6 (by decide) ?_
  obtain ⟨M3, eM3⟩ : ∃ z, z = wI M2 x0 12 0 := ⟨_, rfl⟩
  have H := H _ eM3
  refine xt_putI dX2_forgetBeat_7 (flX2_96 rfl) ty_4_12 rfl ho1.1 ho1.2 ?_
  have ho1 : ok M3 x0 4 := by rw [eM3]; exact ho1
  rw [← eM3]
  refine xt_aload_n (j := 0) dX2_forgetBeat_10 rfl rfl ?_
  refine xt_iconst (v := -1) dX2_forgetBeat_11 (by decide) ?_
  obtain ⟨M4, eM4⟩ : ∃ z, z = wI M3 x0 13 (-1) := ⟨_, rfl⟩
  have H := H _ eM4
  refine xt_putI dX2_forgetBeat_12 (flX2_32 rfl) ty_4_13 rfl ho1.1 ho1.2 ?_
  have ho1 : ok M4 x0 4 := by rw [eM4]; exact ho1
  rw [← eM4]
  exact xt_return dX2_forgetBeat_15 rfl H
theorem KX2_forgetBeat {h : Nat} {x0 : Nat} {M : Mem} {Q : Option Value → Mem → Prop} (H : DX2_forgetBeat_0 h x0 M Q) : E (h + 1) mdX2_forgetBeat [.ref x0] M Q := E.of (by decide) (Nat.le_of_ble_eq_true rfl) (fun _ _ _ => trivial) (VX2_forgetBeat_0 H)
def DX2_tellMoves_108 (h : Nat) (x0 : Nat) (x1 : Nat) (x2 : Int32) (M : Mem) (Q : Option Value → Mem → Prop) : Prop :=
  T (h + 1) mdX2_tellMoves 50 [(0, .ref x0), (1, .ref x1), (2, .int (x2 + 1))] [] M Q
set_option maxRecDepth 20000 in
set_option maxHeartbeats 2000000 in
theorem VX2_tellMoves_108 {h : Nat} {x0 : Nat} {x1 : Nat} {x2 : Int32} {M : Mem} {Q : Option Value → Mem → Prop} (H : DX2_tellMoves_108 h x0 x1 x2 M Q) : T (h + 1) mdX2_tellMoves 108 [(0, .ref x0), (1, .ref x1), (2, .int x2)] [] M Q := by
  unfold DX2_tellMoves_108 at H
  refine xt_iinc (j := 2) (v := x2 + 1) (lv' := [(2, .int (x2 + 1)), (0, .ref x0), (1, .ref x1)]) dX2_tellMoves_108 rfl (by rfl) (by decide) rfl ?_
  refine xt_goto (tgt := 50) dX2_tellMoves_111 (by decide) ?_
  exact xt_sub (lv' := [(0, .ref x0), (1, .ref x1), (2, .int (x2 + 1))]) [1, 2, 0] rfl H
def DX2_tellMoves_105 (h : Nat) (x0 : Nat) (x1 : Nat) (x2 : Int32) (s0 : Nat) (s1 : Int32) (s2 : Int32) (M : Mem) (Q : Option Value → Mem → Prop) : Prop :=
  ok M s0 2 ∧ E h mdX0_tellIf [.ref s0, .int s1, .int s2] M (fun r M2 => mE M M2 → r = none ∧ DX2_tellMoves_108 h x0 x1 x2 M2 Q)
set_option maxRecDepth 20000 in
set_option maxHeartbeats 2000000 in
theorem VX2_tellMoves_105 {h : Nat} {x0 : Nat} {x1 : Nat} {x2 : Int32} {s0 : Nat} {s1 : Int32} {s2 : Int32} {M : Mem} {Q : Option Value → Mem → Prop} (H : DX2_tellMoves_105 h x0 x1 x2 s0 s1 s2 M Q) : T (h + 1) mdX2_tellMoves 105 [(0, .ref x0), (1, .ref x1), (2, .int x2)] [.int s2, .int s1, .ref s0] M Q := by
  unfold DX2_tellMoves_105 at H
  obtain ⟨ho1, H⟩ := H
  refine xt_callV (h2 := h) (as := [.int s1, .int s2]) (st := []) dX2_tellMoves_105 (mlX2_125 rfl) rfl ho1.1 ⟨by rw [ho1.2]; rfl, by rw [ho1.2]; decide⟩ (by first | decide | (simp [Value.category]; done)) (Nat.le_refl _) H (fun r M2 HH hE => ?_)
  obtain ⟨hr, H⟩ := HH hE
  subst hr
  show T _ _ _ _ [] _ _
  exact xt_sub [0, 1, 2] rfl (VX2_tellMoves_108 H)
def DX2_tellMoves_50 (h : Nat) (x0 : Nat) (x1 : Nat) (x2 : Int32) (M : Mem) (Q : Option Value → Mem → Prop) : Prop :=
  ok M x0 4 ∧ ∃ b2 : Nat, mR M x0 0 = some b2 ∧ ok M b2 3 ∧ ∃ b4 : Nat, mR M b2 6 = some b4 ∧ ok M b4 1 ∧ E h mdJx4a65c_size_8abf5 [.ref b4] M (fun r M6 => mE M M6 → ∃ r7 : Int32, r = some (.int r7) ∧ (r7 ≤ x2 → Q none M6) ∧
  (¬ (r7 ≤ x2) → ∃ b8 : Nat, mR M6 x0 0 = some b8 ∧ ok M6 b8 3 ∧ ∃ b10 : Nat, mR M6 b8 6 = some b10 ∧ ok M6 b10 1 ∧ E h mdJx4a65c_get_915e3 [.ref b10, .int x2] M6 (fun r M12 => mE M6 M12 → ∃ b13 : Nat, r = some (.ref b13) ∧ ok M12 b13 5 ∧ (¬ (mI M12 b13 3) = 3 → DX2_tellMoves_108 h x0 x1 x2 M12 Q) ∧
  ((mI M12 b13 3) = 3 → E h mdX2_isSo [.ref x0, .ref b13] M12 (fun r M15 => mE M12 M15 → ∃ r16 : Int32, r = some (.int r16) ∧ (r16 = 0 → DX2_tellMoves_105 h x0 x1 x2 x1 (mI M12 b13 4) 0 M15 Q) ∧
  (¬ (r16 = 0) → DX2_tellMoves_105 h x0 x1 x2 x1 (mI M12 b13 4) (-1) M15 Q))))))
set_option maxRecDepth 20000 in
set_option maxHeartbeats 2000000 in
theorem VX2_tellMoves_50 {h : Nat} {x0 : Nat} {x1 : Nat} {x2 : Int32} {M : Mem} {Q : Option Value → Mem → Prop} (H : DX2_tellMoves_50 h x0 x1 x2 M Q) : T (h + 1) mdX2_tellMoves 50 [(0, .ref x0), (1, .ref x1), (2, .int x2)] [] M Q := by
  unfold DX2_tellMoves_50 at H
  refine xt_iload_n (j := 2) dX2_tellMoves_50 rfl rfl ?_
  refine xt_aload_n (j := 0) dX2_tellMoves_51 rfl rfl ?_
  obtain ⟨ho1, H⟩ := H
  obtain ⟨b2, hb, H⟩ := H
  refine xt_getR dX2_tellMoves_52 (flX2_35 rfl) ft_4_0 ho1.1 ho1.2 hb ?_
  obtain ⟨ho3, H⟩ := H
  obtain ⟨b4, hb, H⟩ := H
  refine xt_getR dX2_tellMoves_55 (flX2_42 rfl) ft_3_6 ho3.1 ho3.2 hb ?_
  obtain ⟨ho5, H⟩ := H
  refine xt_callV (h2 := h) (as := []) (st := [.int x2]) dX2_tellMoves_58 (mlX2_46 rfl) rfl ho5.1 ⟨by rw [ho5.2]; rfl, by rw [ho5.2]; decide⟩ (by first | decide | (simp [Value.category]; done)) (Nat.le_refl _) H (fun r M6 HH hE => ?_)
  obtain ⟨r7, hr, H⟩ := HH hE
  subst hr
  have ho1 := ok_E ho1 hE
  show T _ _ _ _ [.int r7, .int x2] _ _
  refine xt_icmp_ge (tgt := 114) dX2_tellMoves_61 (by decide) (fun hc => ?_) (fun hc => ?_)
  · have H := H.1 hc
    exact xt_return dX2_tellMoves_114 rfl H
  · have H := H.2 hc
    refine xt_aload_n (j := 0) dX2_tellMoves_64 rfl rfl ?_
    obtain ⟨b8, hb, H⟩ := H
    refine xt_getR dX2_tellMoves_65 (flX2_35 rfl) ft_4_0 ho1.1 ho1.2 hb ?_
    obtain ⟨ho9, H⟩ := H
    obtain ⟨b10, hb, H⟩ := H
    refine xt_getR dX2_tellMoves_68 (flX2_42 rfl) ft_3_6 ho9.1 ho9.2 hb ?_
    refine xt_iload_n (j := 2) dX2_tellMoves_71 rfl rfl ?_
    obtain ⟨ho11, H⟩ := H
    refine xt_callV (h2 := h) (as := [.int x2]) (st := []) dX2_tellMoves_72 (mlX2_109 rfl) rfl ho11.1 ⟨by rw [ho11.2]; rfl, by rw [ho11.2]; decide⟩ (by first | decide | (simp [Value.category]; done)) (Nat.le_refl _) H (fun r M12 HH hE => ?_)
    obtain ⟨b13, hr, H⟩ := HH hE
    subst hr
    have ho1 := ok_E ho1 hE
    show T _ _ _ _ [.ref b13] _ _
    obtain ⟨ho14, H⟩ := H
    refine xt_cast dX2_tellMoves_75 (ccX2_113 rfl) ho14.1 ho14.2 ?_
    refine xt_astore_n (lv' := [(3, .ref b13), (0, .ref x0), (1, .ref x1), (2, .int x2)]) dX2_tellMoves_78 rfl (by decide) rfl ?_
    refine xt_aload_n (j := 0) dX2_tellMoves_79 rfl rfl ?_
    refine xt_getI dX2_tellMoves_80 (flX2_115 rfl) ft_5_3 ho14.1 ho14.2 ?_
    refine xt_iconst (v := 3) dX2_tellMoves_83 (by decide) ?_
    refine xt_icmp_ne (tgt := 108) dX2_tellMoves_84 (by decide) (fun hc => ?_) (fun hc => ?_)
    · have H := H.1 hc
      exact xt_sub [1, 2, 3] rfl (VX2_tellMoves_108 H)
    · have H := H.2 hc
      refine xt_aload_n (j := 2) dX2_tellMoves_87 rfl rfl ?_
      refine xt_aload_n (j := 0) dX2_tellMoves_88 rfl rfl ?_
      refine xt_getI dX2_tellMoves_89 (flX2_118 rfl) ft_5_4 ho14.1 ho14.2 ?_
      refine xt_aload_n (j := 1) dX2_tellMoves_92 rfl rfl ?_
      refine xt_aload_n (j := 0) dX2_tellMoves_93 rfl rfl ?_
      refine xt_callV (h2 := h) (as := [.ref b13]) (st := [.int (mI M12 b13 4), .ref x1]) dX2_tellMoves_94 (mlX2_121 rfl) rfl ho1.1 ⟨by rw [ho1.2]; rfl, by rw [ho1.2]; decide⟩ (by first | decide | (simp [Value.category]; done)) (Nat.le_refl _) H (fun r M15 HH hE => ?_)
      obtain ⟨r16, hr, H⟩ := HH hE
      subst hr
      have ho1 := ok_E ho1 hE
      have ho14 := ok_E ho14 hE
      show T _ _ _ _ [.int r16, .int (mI M12 b13 4), .ref x1] _ _
      refine xt_if_eq (tgt := 104) dX2_tellMoves_97 (by decide) (fun hc => ?_) (fun hc => ?_)
      · have H := H.1 hc
        refine xt_iconst (v := 0) dX2_tellMoves_104 (by decide) ?_
        exact xt_sub [1, 2, 3] rfl (VX2_tellMoves_105 H)
      · have H := H.2 hc
        refine xt_iconst (v := -1) dX2_tellMoves_100 (by decide) ?_
        refine xt_goto (tgt := 105) dX2_tellMoves_101 (by decide) ?_
        exact xt_sub [1, 2, 3] rfl (VX2_tellMoves_105 H)
def DX2_tellMoves_39 (h : Nat) (x0 : Nat) (x1 : Nat) (x2 : Int32) (s0 : Nat) (s1 : Int32) (s2 : Int32) (M : Mem) (Q : Option Value → Mem → Prop) : Prop :=
  ok M s0 2 ∧ E h mdX0_tellInput [.ref s0, .int s1, .int s2] M (fun r M2 => mE M M2 → r = none ∧ T (h + 1) mdX2_tellMoves 2 [(0, .ref x0), (1, .ref x1), (2, .int (x2 + 1))] [] M2 Q)
set_option maxRecDepth 20000 in
set_option maxHeartbeats 2000000 in
theorem VX2_tellMoves_39 {h : Nat} {x0 : Nat} {x1 : Nat} {x2 : Int32} {s0 : Nat} {s1 : Int32} {s2 : Int32} {M : Mem} {Q : Option Value → Mem → Prop} (H : DX2_tellMoves_39 h x0 x1 x2 s0 s1 s2 M Q) : T (h + 1) mdX2_tellMoves 39 [(0, .ref x0), (1, .ref x1), (2, .int x2)] [.int s2, .int s1, .ref s0] M Q := by
  unfold DX2_tellMoves_39 at H
  obtain ⟨ho1, H⟩ := H
  refine xt_callV (h2 := h) (as := [.int s1, .int s2]) (st := []) dX2_tellMoves_39 (mlX2_105 rfl) rfl ho1.1 ⟨by rw [ho1.2]; rfl, by rw [ho1.2]; decide⟩ (by first | decide | (simp [Value.category]; done)) (Nat.le_refl _) H (fun r M2 HH hE => ?_)
  obtain ⟨hr, H⟩ := HH hE
  subst hr
  show T _ _ _ _ [] _ _
  refine xt_iinc (j := 2) (v := x2 + 1) (lv' := [(2, .int (x2 + 1)), (0, .ref x0), (1, .ref x1)]) dX2_tellMoves_42 rfl (by rfl) (by decide) rfl ?_
  refine xt_goto (tgt := 2) dX2_tellMoves_45 (by decide) ?_
  exact xt_sub (lv' := [(0, .ref x0), (1, .ref x1), (2, .int (x2 + 1))]) [1, 2, 0] rfl H
def DX2_tellMoves_2 (h : Nat) (x0 : Nat) (x1 : Nat) (x2 : Int32) (M : Mem) (Q : Option Value → Mem → Prop) : Prop :=
  ok M x0 4 ∧ ∃ b2 : Nat, mR M x0 0 = some b2 ∧ ok M b2 3 ∧ ((mI M b2 10) ≤ x2 → T (h + 1) mdX2_tellMoves 50 [(0, .ref x0), (1, .ref x1), (2, .int 0)] [] M Q) ∧
  (¬ ((mI M b2 10) ≤ x2) → ∃ b4 : Nat, mR M x0 0 = some b4 ∧ ok M b4 3 ∧ ∃ b6 : Nat, mR M b4 3 = some b6 ∧ ok M b6 21 ∧ vp_in x2 (mL M b6) ∧ (((((mI M x0 6 : Int32).toUInt32 >>> ((x2 : Int32).toUInt32 &&& Int32.toUInt32 31)).toInt32) &&& 1) = 0 → DX2_tellMoves_39 h x0 x1 x2 x1 (mAI M b6 (x2 : Int32).toNatClampNeg) 0 M Q) ∧
  (¬ (((((mI M x0 6 : Int32).toUInt32 >>> ((x2 : Int32).toUInt32 &&& Int32.toUInt32 31)).toInt32) &&& 1) = 0) → DX2_tellMoves_39 h x0 x1 x2 x1 (mAI M b6 (x2 : Int32).toNatClampNeg) (-1) M Q))
set_option maxRecDepth 20000 in
set_option maxHeartbeats 2000000 in
theorem VX2_tellMoves_2 {h : Nat} {x0 : Nat} {x1 : Nat} {x2 : Int32} {M : Mem} {Q : Option Value → Mem → Prop} (H : DX2_tellMoves_2 h x0 x1 x2 M Q) : T (h + 1) mdX2_tellMoves 2 [(0, .ref x0), (1, .ref x1), (2, .int x2)] [] M Q := by
  unfold DX2_tellMoves_2 at H
  refine xt_iload_n (j := 2) dX2_tellMoves_2 rfl rfl ?_
  refine xt_aload_n (j := 0) dX2_tellMoves_3 rfl rfl ?_
  obtain ⟨ho1, H⟩ := H
  obtain ⟨b2, hb, H⟩ := H
  refine xt_getR dX2_tellMoves_4 (flX2_35 rfl) ft_4_0 ho1.1 ho1.2 hb ?_
  obtain ⟨ho3, H⟩ := H
  refine xt_getI dX2_tellMoves_7 (flX2_99 rfl) ft_3_10 ho3.1 ho3.2 ?_
  refine xt_icmp_ge (tgt := 48) dX2_tellMoves_10 (by decide) (fun hc => ?_) (fun hc => ?_)
  · have H := H.1 hc
    refine xt_iconst (v := 0) dX2_tellMoves_48 (by decide) ?_
    refine xt_istore_n (lv' := [(2, .int 0), (0, .ref x0), (1, .ref x1)]) dX2_tellMoves_49 rfl (by decide) rfl ?_
    exact xt_sub (lv' := [(0, .ref x0), (1, .ref x1), (2, .int 0)]) [1, 2, 0] rfl H
  · have H := H.2 hc
    refine xt_aload_n (j := 1) dX2_tellMoves_13 rfl rfl ?_
    refine xt_aload_n (j := 0) dX2_tellMoves_14 rfl rfl ?_
    obtain ⟨b4, hb, H⟩ := H
    refine xt_getR dX2_tellMoves_15 (flX2_35 rfl) ft_4_0 ho1.1 ho1.2 hb ?_
    obtain ⟨ho5, H⟩ := H
    obtain ⟨b6, hb, H⟩ := H
    refine xt_getR dX2_tellMoves_18 (flX2_102 rfl) ft_3_3 ho5.1 ho5.2 hb ?_
    refine xt_iload_n (j := 2) dX2_tellMoves_21 rfl rfl ?_
    obtain ⟨ho7, H⟩ := H
    obtain ⟨hi, H⟩ := H
    refine xt_iald dX2_tellMoves_22 ho7.1 ho7.2 hi ?_
    refine xt_aload_n (j := 0) dX2_tellMoves_23 rfl rfl ?_
    refine xt_getI dX2_tellMoves_24 (flX2_61 rfl) ft_4_6 ho1.1 ho1.2 ?_
    refine xt_iload_n (j := 2) dX2_tellMoves_27 rfl rfl ?_
    refine xt_iushr dX2_tellMoves_28 ?_
    refine xt_iconst (v := 1) dX2_tellMoves_29 (by decide) ?_
    refine xt_iand dX2_tellMoves_30 ?_
    refine xt_if_eq (tgt := 38) dX2_tellMoves_31 (by decide) (fun hc => ?_) (fun hc => ?_)
    · have H := H.1 hc
      refine xt_iconst (v := 0) dX2_tellMoves_38 (by decide) ?_
      exact xt_sub [0, 1, 2] rfl (VX2_tellMoves_39 H)
    · have H := H.2 hc
      refine xt_iconst (v := -1) dX2_tellMoves_34 (by decide) ?_
      refine xt_goto (tgt := 39) dX2_tellMoves_35 (by decide) ?_
      exact xt_sub [0, 1, 2] rfl (VX2_tellMoves_39 H)
def DX2_tellMoves_0 (h : Nat) (x0 : Nat) (x1 : Nat) (M : Mem) (Q : Option Value → Mem → Prop) : Prop :=
  T (h + 1) mdX2_tellMoves 2 [(0, .ref x0), (1, .ref x1), (2, .int 0)] [] M Q
set_option maxRecDepth 20000 in
set_option maxHeartbeats 2000000 in
theorem VX2_tellMoves_0 {h : Nat} {x0 : Nat} {x1 : Nat} {M : Mem} {Q : Option Value → Mem → Prop} (H : DX2_tellMoves_0 h x0 x1 M Q) : T (h + 1) mdX2_tellMoves 0 [(0, .ref x0), (1, .ref x1)] [] M Q := by
  unfold DX2_tellMoves_0 at H
  refine xt_iconst (v := 0) dX2_tellMoves_0 (by decide) ?_
  refine xt_istore_n (lv' := [(2, .int 0), (0, .ref x0), (1, .ref x1)]) dX2_tellMoves_1 rfl (by decide) rfl ?_
  exact xt_sub (lv' := [(0, .ref x0), (1, .ref x1), (2, .int 0)]) [1, 2, 0] rfl H
theorem KX2_tellMoves {h : Nat} {x0 : Nat} {x1 : Nat} {M : Mem} {Q : Option Value → Mem → Prop} (H : DX2_tellMoves_0 h x0 x1 M Q) : E (h + 1) mdX2_tellMoves [.ref x0, .ref x1] M Q := E.of (by decide) (Nat.le_of_ble_eq_true rfl) (fun _ _ _ => trivial) (VX2_tellMoves_0 H)
def DX2_isSo_83 (h : Nat) (s0 : Int32) (M : Mem) (Q : Option Value → Mem → Prop) : Prop :=
  (s0 = 0 ∨ s0 = 1) ∧ Q (some (.int s0)) M
set_option maxRecDepth 20000 in
set_option maxHeartbeats 2000000 in
theorem VX2_isSo_83 {h : Nat} {s0 : Int32} {M : Mem} {Q : Option Value → Mem → Prop} (H : DX2_isSo_83 h s0 M Q) : T (h + 1) mdX2_isSo 83 [] [.int s0] M Q := by
  unfold DX2_isSo_83 at H
  exact xt_zreturn dX2_isSo_83 rfl H.1 H.2
def DX2_isSo_82 (h : Nat) (M : Mem) (Q : Option Value → Mem → Prop) : Prop :=
  DX2_isSo_83 h 0 M Q
set_option maxRecDepth 20000 in
set_option maxHeartbeats 2000000 in
theorem VX2_isSo_82 {h : Nat} {M : Mem} {Q : Option Value → Mem → Prop} (H : DX2_isSo_82 h  M Q) : T (h + 1) mdX2_isSo 82 [] [] M Q := by
  unfold DX2_isSo_82 at H
  refine xt_iconst (v := 0) dX2_isSo_82 (by decide) ?_
  exact xt_sub [] rfl (VX2_isSo_83 H)
def DX2_isSo_0 (h : Nat) (x0 : Nat) (x1 : Nat) (M : Mem) (Q : Option Value → Mem → Prop) : Prop :=
  ok M x0 4 ∧ ∃ b2 : Nat, mR M x0 0 = some b2 ∧ ok M b2 3 ∧ ∃ b4 : Nat, mR M b2 8 = some b4 ∧ ok M x1 5 ∧ ∃ b6 : Nat, mR M x0 2 = some b6 ∧ ok M b4 8 ∧ E h mdX6_work [.ref b4, .int (mI M x1 5), .ref b6] M (fun r M8 => mE M M8 → ∃ r9 : Int32, r = some (.int r9) ∧ ∃ b10 : Nat, mR M8 x0 0 = some b10 ∧ ok M8 b10 3 ∧ ∃ b12 : Nat, mR M8 b10 8 = some b12 ∧ ok M8 b12 8 ∧ ((mI M8 b12 4) = 0 → ∃ b14 : Nat, mR M8 x0 0 = some b14 ∧ ok M8 b14 3 ∧ ∃ b16 : Nat, mR M8 b14 8 = some b16 ∧ ∃ b17 : Nat, mR M8 x0 2 = some b17 ∧ ok M8 b16 8 ∧ E h mdX6_work [.ref b16, .int (mI M8 x1 6), .ref b17] M8 (fun r M19 => mE M8 M19 → ∃ r20 : Int32, r = some (.int r20) ∧ ∃ b21 : Nat, mR M19 x0 0 = some b21 ∧ ok M19 b21 3 ∧ ∃ b23 : Nat, mR M19 b21 8 = some b23 ∧ ok M19 b23 8 ∧ (¬ (mI M19 b23 4) = 0 → DX2_isSo_82 h  M19 Q) ∧
  ((mI M19 b23 4) = 0 → E h mdX6_isSo [.int (mI M19 x1 7), .int r9, .int r20] M19 (fun r M25 => mE M19 M25 → ∃ r26 : Int32, r = some (.int r26) ∧ (r26 = 0 → DX2_isSo_82 h  M25 Q) ∧
  (¬ (r26 = 0) → DX2_isSo_83 h 1 M25 Q))))) ∧
  (¬ ((mI M8 b12 4) = 0) → ((0 : Int32) = 0 ∨ (0 : Int32) = 1) ∧ Q (some (.int 0)) M8))
set_option maxRecDepth 20000 in
set_option maxHeartbeats 2000000 in
theorem VX2_isSo_0 {h : Nat} {x0 : Nat} {x1 : Nat} {M : Mem} {Q : Option Value → Mem → Prop} (H : DX2_isSo_0 h x0 x1 M Q) : T (h + 1) mdX2_isSo 0 [(0, .ref x0), (1, .ref x1)] [] M Q := by
  unfold DX2_isSo_0 at H
  refine xt_aload_n (j := 0) dX2_isSo_0 rfl rfl ?_
  obtain ⟨ho1, H⟩ := H
  obtain ⟨b2, hb, H⟩ := H
  refine xt_getR dX2_isSo_1 (flX2_35 rfl) ft_4_0 ho1.1 ho1.2 hb ?_
  obtain ⟨ho3, H⟩ := H
  obtain ⟨b4, hb, H⟩ := H
  refine xt_getR dX2_isSo_4 (flX2_128 rfl) ft_3_8 ho3.1 ho3.2 hb ?_
  refine xt_aload_n (j := 1) dX2_isSo_7 rfl rfl ?_
  obtain ⟨ho5, H⟩ := H
  refine xt_getI dX2_isSo_8 (flX2_132 rfl) ft_5_5 ho5.1 ho5.2 ?_
  refine xt_aload_n (j := 0) dX2_isSo_11 rfl rfl ?_
  obtain ⟨b6, hb, H⟩ := H
  refine xt_getR dX2_isSo_12 (flX2_13 rfl) ft_4_2 ho1.1 ho1.2 hb ?_
  obtain ⟨ho7, H⟩ := H
  refine xt_callV (h2 := h) (as := [.int (mI M x1 5), .ref b6]) (st := []) dX2_isSo_15 (mlX2_135 rfl) rfl ho7.1 ⟨by rw [ho7.2]; rfl, by rw [ho7.2]; decide⟩ (by first | decide | (simp [Value.category]; done)) (Nat.le_refl _) H (fun r M8 HH hE => ?_)
  obtain ⟨r9, hr, H⟩ := HH hE
  subst hr
  have ho1 := ok_E ho1 hE
  have ho5 := ok_E ho5 hE
  show T _ _ _ _ [.int r9] _ _
  refine xt_istore_n (lv' := [(2, .int r9), (0, .ref x0), (1, .ref x1)]) dX2_isSo_18 rfl (by decide) rfl ?_
  refine xt_aload_n (j := 1) dX2_isSo_19 rfl rfl ?_
  obtain ⟨b10, hb, H⟩ := H
  refine xt_getR dX2_isSo_20 (flX2_35 rfl) ft_4_0 ho1.1 ho1.2 hb ?_
  obtain ⟨ho11, H⟩ := H
  obtain ⟨b12, hb, H⟩ := H
  refine xt_getR dX2_isSo_23 (flX2_128 rfl) ft_3_8 ho11.1 ho11.2 hb ?_
  obtain ⟨ho13, H⟩ := H
  refine xt_getI dX2_isSo_26 (flX2_141 rfl) ft_8_4 ho13.1 ho13.2 ?_
  refine xt_if_eq (tgt := 34) dX2_isSo_29 (by decide) (fun hc => ?_) (fun hc => ?_)
  · have H := H.1 hc
    refine xt_aload_n (j := 1) dX2_isSo_34 rfl rfl ?_
    obtain ⟨b14, hb, H⟩ := H
    refine xt_getR dX2_isSo_35 (flX2_35 rfl) ft_4_0 ho1.1 ho1.2 hb ?_
    obtain ⟨ho15, H⟩ := H
    obtain ⟨b16, hb, H⟩ := H
    refine xt_getR dX2_isSo_38 (flX2_128 rfl) ft_3_8 ho15.1 ho15.2 hb ?_
    refine xt_aload_n (j := 2) dX2_isSo_41 rfl rfl ?_
    refine xt_getI dX2_isSo_42 (flX2_142 rfl) ft_5_6 ho5.1 ho5.2 ?_
    refine xt_aload_n (j := 1) dX2_isSo_45 rfl rfl ?_
    obtain ⟨b17, hb, H⟩ := H
    refine xt_getR dX2_isSo_46 (flX2_13 rfl) ft_4_2 ho1.1 ho1.2 hb ?_
    obtain ⟨ho18, H⟩ := H
    refine xt_callV (h2 := h) (as := [.int (mI M8 x1 6), .ref b17]) (st := []) dX2_isSo_49 (mlX2_135 rfl) rfl ho18.1 ⟨by rw [ho18.2]; rfl, by rw [ho18.2]; decide⟩ (by first | decide | (simp [Value.category]; done)) (Nat.le_refl _) H (fun r M19 HH hE => ?_)
    obtain ⟨r20, hr, H⟩ := HH hE
    subst hr
    have ho1 := ok_E ho1 hE
    have ho5 := ok_E ho5 hE
    show T _ _ _ _ [.int r20] _ _
    refine xt_istore_n (lv' := [(3, .int r20), (2, .int r9), (0, .ref x0), (1, .ref x1)]) dX2_isSo_52 rfl (by decide) rfl ?_
    refine xt_aload_n (j := 2) dX2_isSo_53 rfl rfl ?_
    obtain ⟨b21, hb, H⟩ := H
    refine xt_getR dX2_isSo_54 (flX2_35 rfl) ft_4_0 ho1.1 ho1.2 hb ?_
    obtain ⟨ho22, H⟩ := H
    obtain ⟨b23, hb, H⟩ := H
    refine xt_getR dX2_isSo_57 (flX2_128 rfl) ft_3_8 ho22.1 ho22.2 hb ?_
    obtain ⟨ho24, H⟩ := H
    refine xt_getI dX2_isSo_60 (flX2_141 rfl) ft_8_4 ho24.1 ho24.2 ?_
    refine xt_if_ne (tgt := 82) dX2_isSo_63 (by decide) (fun hc => ?_) (fun hc => ?_)
    · have H := H.1 hc
      exact xt_sub [] rfl (VX2_isSo_82 H)
    · have H := H.2 hc
      refine xt_aload_n (j := 3) dX2_isSo_66 rfl rfl ?_
      refine xt_getI dX2_isSo_67 (flX2_145 rfl) ft_5_7 ho5.1 ho5.2 ?_
      refine xt_iload_n (j := 1) dX2_isSo_70 rfl rfl ?_
      refine xt_iload_n (j := 0) dX2_isSo_71 rfl rfl ?_
      refine xt_callS (h2 := h) (as := [.int (mI M19 x1 7), .int r9, .int r20]) (st := []) dX2_isSo_72 (mlX2_148 rfl) rfl (by first | decide | (simp [Value.category]; done)) (Nat.le_refl _) H (fun r M25 HH hE => ?_)
      obtain ⟨r26, hr, H⟩ := HH hE
      subst hr
      have ho1 := ok_E ho1 hE
      have ho5 := ok_E ho5 hE
      show T _ _ _ _ [.int r26] _ _
      refine xt_if_eq (tgt := 82) dX2_isSo_75 (by decide) (fun hc => ?_) (fun hc => ?_)
      · have H := H.1 hc
        exact xt_sub [] rfl (VX2_isSo_82 H)
      · have H := H.2 hc
        refine xt_iconst (v := 1) dX2_isSo_78 (by decide) ?_
        refine xt_goto (tgt := 83) dX2_isSo_79 (by decide) ?_
        exact xt_sub [] rfl (VX2_isSo_83 H)
  · have H := H.2 hc
    refine xt_iconst (v := 0) dX2_isSo_32 (by decide) ?_
    exact xt_zreturn dX2_isSo_33 rfl H.1 H.2
theorem KX2_isSo {h : Nat} {x0 : Nat} {x1 : Nat} {M : Mem} {Q : Option Value → Mem → Prop} (H : DX2_isSo_0 h x0 x1 M Q) : E (h + 1) mdX2_isSo [.ref x0, .ref x1] M Q := E.of (by decide) (Nat.le_of_ble_eq_true rfl) (fun _ _ _ => trivial) (VX2_isSo_0 H)
def DX2_recordWires_45 (h : Nat) (x0 : Nat) (x1 : Nat) (x2 : Int32) (x3 : Nat) (s0 : Int32) (M : Mem) (Q : Option Value → Mem → Prop) : Prop :=
  ok M x0 4 ∧ ∃ b2 : Nat, mR M x0 8 = some b2 ∧ ok M x3 5 ∧ ok M x1 2 ∧ E h mdX0_truth [.ref x1, .int (mI M x3 9)] M (fun r M5 => mE M M5 → ∃ r6 : Int32, r = some (.int r6) ∧ E h mdX0_truth [.ref x1, .int (mI M5 x3 10)] M5 (fun r M7 => mE M5 M7 → ∃ r8 : Int32, r = some (.int r8) ∧ E h mdX0_truth [.ref x1, .int (mI M7 x3 11)] M7 (fun r M9 => mE M7 M9 → ∃ r10 : Int32, r = some (.int r10) ∧ E h mdX0_truth [.ref x1, .int (mI M9 x3 12)] M9 (fun r M11 => mE M9 M11 → ∃ r12 : Int32, r = some (.int r12) ∧ ok M11 b2 21 ∧ vp_in x2 (mL M11 b2) ∧ ∀ M14 : Mem, M14 = wAI M11 b2 (x2 : Int32).toNatClampNeg ((((r6 ||| (s0 <<< ((2 : Int32) &&& 31))) ||| (r8 <<< ((4 : Int32) &&& 31))) ||| (r10 <<< ((6 : Int32) &&& 31))) ||| (r12 <<< ((8 : Int32) &&& 31))) →
  T (h + 1) mdX2_recordWires 2 [(0, .ref x0), (1, .ref x1), (2, .int (x2 + 1))] [] M14 Q))))
set_option maxRecDepth 20000 in
set_option maxHeartbeats 2000000 in
theorem VX2_recordWires_45 {h : Nat} {x0 : Nat} {x1 : Nat} {x2 : Int32} {x3 : Nat} {s0 : Int32} {M : Mem} {Q : Option Value → Mem → Prop} (H : DX2_recordWires_45 h x0 x1 x2 x3 s0 M Q) : T (h + 1) mdX2_recordWires 45 [(0, .ref x0), (1, .ref x1), (2, .int x2), (3, .ref x3)] [.int s0] M Q := by
  unfold DX2_recordWires_45 at H
  refine xt_istore (lv' := [(4, .int s0), (0, .ref x0), (1, .ref x1), (2, .int x2), (3, .ref x3)]) dX2_recordWires_45 (by decide) rfl ?_
  refine xt_aload_n (j := 1) dX2_recordWires_47 rfl rfl ?_
  obtain ⟨ho1, H⟩ := H
  obtain ⟨b2, hb, H⟩ := H
  refine xt_getR dX2_recordWires_48 (flX2_52 rfl) ft_4_8 ho1.1 ho1.2 hb ?_
  refine xt_iload_n (j := 3) dX2_recordWires_51 rfl rfl ?_
  refine xt_aload_n (j := 2) dX2_recordWires_52 rfl rfl ?_
  refine xt_aload_n (j := 4) dX2_recordWires_53 rfl rfl ?_
  obtain ⟨ho3, H⟩ := H
  refine xt_getI dX2_recordWires_54 (flX2_154 rfl) ft_5_9 ho3.1 ho3.2 ?_
  obtain ⟨ho4, H⟩ := H
  refine xt_callV (h2 := h) (as := [.int (mI M x3 9)]) (st := [.int x2, .ref b2]) dX2_recordWires_57 (mlX2_157 rfl) rfl ho4.1 ⟨by rw [ho4.2]; rfl, by rw [ho4.2]; decide⟩ (by first | decide | (simp [Value.category]; done)) (Nat.le_refl _) H (fun r M5 HH hE => ?_)
  obtain ⟨r6, hr, H⟩ := HH hE
  subst hr
  have ho1 := ok_E ho1 hE
  have ho3 := ok_E ho3 hE
  have ho4 := ok_E ho4 hE
  show T _ _ _ _ [.int r6, .int x2, .ref b2] _ _
  refine xt_iload (j := 0) dX2_recordWires_60 rfl ?_
  refine xt_iconst (v := 2) dX2_recordWires_62 (by decide) ?_
  refine xt_ishl dX2_recordWires_63 ?_
  refine xt_ior dX2_recordWires_64 ?_
  refine xt_aload_n (j := 2) dX2_recordWires_65 rfl rfl ?_
  refine xt_aload_n (j := 4) dX2_recordWires_66 rfl rfl ?_
  refine xt_getI dX2_recordWires_67 (flX2_161 rfl) ft_5_10 ho3.1 ho3.2 ?_
  refine xt_callV (h2 := h) (as := [.int (mI M5 x3 10)]) (st := [.int (r6 ||| (s0 <<< ((2 : Int32) &&& 31))), .int x2, .ref b2]) dX2_recordWires_70 (mlX2_157 rfl) rfl ho4.1 ⟨by rw [ho4.2]; rfl, by rw [ho4.2]; decide⟩ (by first | decide | (simp [Value.category]; done)) (Nat.le_refl _) H (fun r M7 HH hE => ?_)
  obtain ⟨r8, hr, H⟩ := HH hE
  subst hr
  have ho1 := ok_E ho1 hE
  have ho3 := ok_E ho3 hE
  have ho4 := ok_E ho4 hE
  show T _ _ _ _ [.int r8, .int (r6 ||| (s0 <<< ((2 : Int32) &&& 31))), .int x2, .ref b2] _ _
  refine xt_iconst (v := 4) dX2_recordWires_73 (by decide) ?_
  refine xt_ishl dX2_recordWires_74 ?_
  refine xt_ior dX2_recordWires_75 ?_
  refine xt_aload_n (j := 2) dX2_recordWires_76 rfl rfl ?_
  refine xt_aload_n (j := 4) dX2_recordWires_77 rfl rfl ?_
  refine xt_getI dX2_recordWires_78 (flX2_164 rfl) ft_5_11 ho3.1 ho3.2 ?_
  refine xt_callV (h2 := h) (as := [.int (mI M7 x3 11)]) (st := [.int ((r6 ||| (s0 <<< ((2 : Int32) &&& 31))) ||| (r8 <<< ((4 : Int32) &&& 31))), .int x2, .ref b2]) dX2_recordWires_81 (mlX2_157 rfl) rfl ho4.1 ⟨by rw [ho4.2]; rfl, by rw [ho4.2]; decide⟩ (by first | decide | (simp [Value.category]; done)) (Nat.le_refl _) H (fun r M9 HH hE => ?_)
  obtain ⟨r10, hr, H⟩ := HH hE
  subst hr
  have ho1 := ok_E ho1 hE
  have ho3 := ok_E ho3 hE
  have ho4 := ok_E ho4 hE
  show T _ _ _ _ [.int r10, .int ((r6 ||| (s0 <<< ((2 : Int32) &&& 31))) ||| (r8 <<< ((4 : Int32) &&& 31))), .int x2, .ref b2] _ _
  refine xt_bipush (v := 6) dX2_recordWires_84 (by decide) ?_
  refine xt_ishl dX2_recordWires_86 ?_
  refine xt_ior dX2_recordWires_87 ?_
  refine xt_aload_n (j := 2) dX2_recordWires_88 rfl rfl ?_
  refine xt_aload_n (j := 4) dX2_recordWires_89 rfl rfl ?_
  refine xt_getI dX2_recordWires_90 (flX2_167 rfl) ft_5_12 ho3.1 ho3.2 ?_
  refine xt_callV (h2 := h) (as := [.int (mI M9 x3 12)]) (st := [.int (((r6 ||| (s0 <<< ((2 : Int32) &&& 31))) ||| (r8 <<< ((4 : Int32) &&& 31))) ||| (r10 <<< ((6 : Int32) &&& 31))), .int x2, .ref b2]) dX2_recordWires_93 (mlX2_157 rfl) rfl ho4.1 ⟨by rw [ho4.2]; rfl, by rw [ho4.2]; decide⟩ (by first | decide | (simp [Value.category]; done)) (Nat.le_refl _) H (fun r M11 HH hE => ?_)
  obtain ⟨r12, hr, H⟩ := HH hE
  subst hr
  have ho1 := ok_E ho1 hE
  have ho3 := ok_E ho3 hE
  have ho4 := ok_E ho4 hE
  show T _ _ _ _ [.int r12, .int (((r6 ||| (s0 <<< ((2 : Int32) &&& 31))) ||| (r8 <<< ((4 : Int32) &&& 31))) ||| (r10 <<< ((6 : Int32) &&& 31))), .int x2, .ref b2] _ _
  refine xt_bipush (v := 8) dX2_recordWires_96 (by decide) ?_
  refine xt_ishl dX2_recordWires_98 ?_
  refine xt_ior dX2_recordWires_99 ?_
  obtain ⟨ho13, H⟩ := H
  obtain ⟨hi, H⟩ := H
  obtain ⟨M14, eM14⟩ : ∃ z, z = wAI M11 b2 (x2 : Int32).toNatClampNeg ((((r6 ||| (s0 <<< ((2 : Int32) &&& 31))) ||| (r8 <<< ((4 : Int32) &&& 31))) ||| (r10 <<< ((6 : Int32) &&& 31))) ||| (r12 <<< ((8 : Int32) &&& 31))) := ⟨_, rfl⟩
  have H := H _ eM14
  refine xt_iast dX2_recordWires_100 ho13.1 ho13.2 hi ?_
  have ho1 : ok M14 x0 4 := by rw [eM14]; exact ho1
  have ho3 : ok M14 x3 5 := by rw [eM14]; exact ho3
  have ho4 : ok M14 x1 2 := by rw [eM14]; exact ho4
  rw [← eM14]
  refine xt_iinc (j := 3) (v := x2 + 1) (lv' := [(2, .int (x2 + 1)), (4, .int s0), (0, .ref x0), (1, .ref x1), (3, .ref x3)]) dX2_recordWires_101 rfl (by rfl) (by decide) rfl ?_
  refine xt_goto (tgt := 2) dX2_recordWires_104 (by decide) ?_
  exact xt_sub (lv' := [(0, .ref x0), (1, .ref x1), (2, .int (x2 + 1))]) [2, 3, 0] rfl H
def DX2_recordWires_2 (h : Nat) (x0 : Nat) (x1 : Nat) (x2 : Int32) (M : Mem) (Q : Option Value → Mem → Prop) : Prop :=
  ok M x0 4 ∧ ∃ b2 : Nat, mR M x0 8 = some b2 ∧ ok M b2 21 ∧ ((Int32.ofNat (mL M b2)) ≤ x2 → Q none M) ∧
  (¬ ((Int32.ofNat (mL M b2)) ≤ x2) → ∃ b4 : Nat, mR M x0 0 = some b4 ∧ ok M b4 3 ∧ ∃ b6 : Nat, mR M b4 6 = some b6 ∧ ok M b6 1 ∧ E h mdJx4a65c_get_915e3 [.ref b6, .int x2] M (fun r M8 => mE M M8 → ∃ b9 : Nat, r = some (.ref b9) ∧ ok M8 b9 5 ∧ ∃ b11 : Nat, mR M8 x0 2 = some b11 ∧ ok M8 b11 21 ∧ vp_in 0 (mL M8 b11) ∧ (((mI M8 b9 8) &&& (mAI M8 b11 (0 : Int32).toNatClampNeg)) = 0 → DX2_recordWires_45 h x0 x1 x2 b9 0 M8 Q) ∧
  (¬ (((mI M8 b9 8) &&& (mAI M8 b11 (0 : Int32).toNatClampNeg)) = 0) → DX2_recordWires_45 h x0 x1 x2 b9 1 M8 Q)))
set_option maxRecDepth 20000 in
set_option maxHeartbeats 2000000 in
theorem VX2_recordWires_2 {h : Nat} {x0 : Nat} {x1 : Nat} {x2 : Int32} {M : Mem} {Q : Option Value → Mem → Prop} (H : DX2_recordWires_2 h x0 x1 x2 M Q) : T (h + 1) mdX2_recordWires 2 [(0, .ref x0), (1, .ref x1), (2, .int x2)] [] M Q := by
  unfold DX2_recordWires_2 at H
  refine xt_iload_n (j := 2) dX2_recordWires_2 rfl rfl ?_
  refine xt_aload_n (j := 0) dX2_recordWires_3 rfl rfl ?_
  obtain ⟨ho1, H⟩ := H
  obtain ⟨b2, hb, H⟩ := H
  refine xt_getR dX2_recordWires_4 (flX2_52 rfl) ft_4_8 ho1.1 ho1.2 hb ?_
  obtain ⟨ho3, H⟩ := H
  refine xt_alen dX2_recordWires_7 ho3.1 (Or.inr (Or.inl ho3.2)) ?_
  refine xt_icmp_ge (tgt := 107) dX2_recordWires_8 (by decide) (fun hc => ?_) (fun hc => ?_)
  · have H := H.1 hc
    exact xt_return dX2_recordWires_107 rfl H
  · have H := H.2 hc
    refine xt_aload_n (j := 0) dX2_recordWires_11 rfl rfl ?_
    obtain ⟨b4, hb, H⟩ := H
    refine xt_getR dX2_recordWires_12 (flX2_35 rfl) ft_4_0 ho1.1 ho1.2 hb ?_
    obtain ⟨ho5, H⟩ := H
    obtain ⟨b6, hb, H⟩ := H
    refine xt_getR dX2_recordWires_15 (flX2_42 rfl) ft_3_6 ho5.1 ho5.2 hb ?_
    refine xt_iload_n (j := 2) dX2_recordWires_18 rfl rfl ?_
    obtain ⟨ho7, H⟩ := H
    refine xt_callV (h2 := h) (as := [.int x2]) (st := []) dX2_recordWires_19 (mlX2_109 rfl) rfl ho7.1 ⟨by rw [ho7.2]; rfl, by rw [ho7.2]; decide⟩ (by first | decide | (simp [Value.category]; done)) (Nat.le_refl _) H (fun r M8 HH hE => ?_)
    obtain ⟨b9, hr, H⟩ := HH hE
    subst hr
    have ho1 := ok_E ho1 hE
    show T _ _ _ _ [.ref b9] _ _
    obtain ⟨ho10, H⟩ := H
    refine xt_cast dX2_recordWires_22 (ccX2_113 rfl) ho10.1 ho10.2 ?_
    refine xt_astore_n (lv' := [(3, .ref b9), (0, .ref x0), (1, .ref x1), (2, .int x2)]) dX2_recordWires_25 rfl (by decide) rfl ?_
    refine xt_aload_n (j := 0) dX2_recordWires_26 rfl rfl ?_
    refine xt_getI dX2_recordWires_27 (flX2_151 rfl) ft_5_8 ho10.1 ho10.2 ?_
    refine xt_aload_n (j := 1) dX2_recordWires_30 rfl rfl ?_
    obtain ⟨b11, hb, H⟩ := H
    refine xt_getR dX2_recordWires_31 (flX2_13 rfl) ft_4_2 ho1.1 ho1.2 hb ?_
    refine xt_iconst (v := 0) dX2_recordWires_34 (by decide) ?_
    obtain ⟨ho12, H⟩ := H
    obtain ⟨hi, H⟩ := H
    refine xt_iald dX2_recordWires_35 ho12.1 ho12.2 hi ?_
    refine xt_iand dX2_recordWires_36 ?_
    refine xt_if_eq (tgt := 44) dX2_recordWires_37 (by decide) (fun hc => ?_) (fun hc => ?_)
    · have H := H.1 hc
      refine xt_iconst (v := 0) dX2_recordWires_44 (by decide) ?_
      exact xt_sub [1, 2, 3, 0] rfl (VX2_recordWires_45 H)
    · have H := H.2 hc
      refine xt_iconst (v := 1) dX2_recordWires_40 (by decide) ?_
      refine xt_goto (tgt := 45) dX2_recordWires_41 (by decide) ?_
      exact xt_sub [1, 2, 3, 0] rfl (VX2_recordWires_45 H)
def DX2_recordWires_0 (h : Nat) (x0 : Nat) (x1 : Nat) (M : Mem) (Q : Option Value → Mem → Prop) : Prop :=
  T (h + 1) mdX2_recordWires 2 [(0, .ref x0), (1, .ref x1), (2, .int 0)] [] M Q
set_option maxRecDepth 20000 in
set_option maxHeartbeats 2000000 in
theorem VX2_recordWires_0 {h : Nat} {x0 : Nat} {x1 : Nat} {M : Mem} {Q : Option Value → Mem → Prop} (H : DX2_recordWires_0 h x0 x1 M Q) : T (h + 1) mdX2_recordWires 0 [(0, .ref x0), (1, .ref x1)] [] M Q := by
  unfold DX2_recordWires_0 at H
  refine xt_iconst (v := 0) dX2_recordWires_0 (by decide) ?_
  refine xt_istore_n (lv' := [(2, .int 0), (0, .ref x0), (1, .ref x1)]) dX2_recordWires_1 rfl (by decide) rfl ?_
  exact xt_sub (lv' := [(0, .ref x0), (1, .ref x1), (2, .int 0)]) [1, 2, 0] rfl H
theorem KX2_recordWires {h : Nat} {x0 : Nat} {x1 : Nat} {M : Mem} {Q : Option Value → Mem → Prop} (H : DX2_recordWires_0 h x0 x1 M Q) : E (h + 1) mdX2_recordWires [.ref x0, .ref x1] M Q := E.of (by decide) (Nat.le_of_ble_eq_true rfl) (fun _ _ _ => trivial) (VX2_recordWires_0 H)
def DX2_wireOf_25 (h : Nat) (s0 : Int32) (M : Mem) (Q : Option Value → Mem → Prop) : Prop :=
  Q (some (.int s0)) M
set_option maxRecDepth 20000 in
set_option maxHeartbeats 2000000 in
theorem VX2_wireOf_25 {h : Nat} {s0 : Int32} {M : Mem} {Q : Option Value → Mem → Prop} (H : DX2_wireOf_25 h s0 M Q) : T (h + 1) mdX2_wireOf 25 [] [.int s0] M Q := by
  unfold DX2_wireOf_25 at H
  exact xt_ireturn dX2_wireOf_25 rfl H
def DX2_wireOf_0 (h : Nat) (x0 : Nat) (x1 : Int32) (x2 : Int32) (M : Mem) (Q : Option Value → Mem → Prop) : Prop :=
  ok M x0 4 ∧ ∃ b2 : Nat, mR M x0 8 = some b2 ∧ ok M b2 21 ∧ ((Int32.ofNat (mL M b2)) ≤ x1 → DX2_wireOf_25 h 0 M Q) ∧
  (¬ ((Int32.ofNat (mL M b2)) ≤ x1) → ∃ b4 : Nat, mR M x0 8 = some b4 ∧ ok M b4 21 ∧ vp_in x1 (mL M b4) ∧ DX2_wireOf_25 h ((((mAI M b4 (x1 : Int32).toNatClampNeg : Int32).toUInt32 >>> ((2 * x2 : Int32).toUInt32 &&& Int32.toUInt32 31)).toInt32) &&& 3) M Q)
set_option maxRecDepth 20000 in
set_option maxHeartbeats 2000000 in
theorem VX2_wireOf_0 {h : Nat} {x0 : Nat} {x1 : Int32} {x2 : Int32} {M : Mem} {Q : Option Value → Mem → Prop} (H : DX2_wireOf_0 h x0 x1 x2 M Q) : T (h + 1) mdX2_wireOf 0 [(0, .ref x0), (1, .int x1), (2, .int x2)] [] M Q := by
  unfold DX2_wireOf_0 at H
  refine xt_iload_n (j := 1) dX2_wireOf_0 rfl rfl ?_
  refine xt_aload_n (j := 0) dX2_wireOf_1 rfl rfl ?_
  obtain ⟨ho1, H⟩ := H
  obtain ⟨b2, hb, H⟩ := H
  refine xt_getR dX2_wireOf_2 (flX2_52 rfl) ft_4_8 ho1.1 ho1.2 hb ?_
  obtain ⟨ho3, H⟩ := H
  refine xt_alen dX2_wireOf_5 ho3.1 (Or.inr (Or.inl ho3.2)) ?_
  refine xt_icmp_ge (tgt := 24) dX2_wireOf_6 (by decide) (fun hc => ?_) (fun hc => ?_)
  · have H := H.1 hc
    refine xt_iconst (v := 0) dX2_wireOf_24 (by decide) ?_
    exact xt_sub [] rfl (VX2_wireOf_25 H)
  · have H := H.2 hc
    refine xt_aload_n (j := 0) dX2_wireOf_9 rfl rfl ?_
    obtain ⟨b4, hb, H⟩ := H
    refine xt_getR dX2_wireOf_10 (flX2_52 rfl) ft_4_8 ho1.1 ho1.2 hb ?_
    refine xt_iload_n (j := 1) dX2_wireOf_13 rfl rfl ?_
    obtain ⟨ho5, H⟩ := H
    obtain ⟨hi, H⟩ := H
    refine xt_iald dX2_wireOf_14 ho5.1 ho5.2 hi ?_
    refine xt_iconst (v := 2) dX2_wireOf_15 (by decide) ?_
    refine xt_iload_n (j := 2) dX2_wireOf_16 rfl rfl ?_
    refine xt_imul dX2_wireOf_17 ?_
    refine xt_iushr dX2_wireOf_18 ?_
    refine xt_iconst (v := 3) dX2_wireOf_19 (by decide) ?_
    refine xt_iand dX2_wireOf_20 ?_
    refine xt_goto (tgt := 25) dX2_wireOf_21 (by decide) ?_
    exact xt_sub [] rfl (VX2_wireOf_25 H)
theorem KX2_wireOf {h : Nat} {x0 : Nat} {x1 : Int32} {x2 : Int32} {M : Mem} {Q : Option Value → Mem → Prop} (H : DX2_wireOf_0 h x0 x1 x2 M Q) : E (h + 1) mdX2_wireOf [.ref x0, .int x1, .int x2] M Q := E.of (by decide) (Nat.le_of_ble_eq_true rfl) (fun _ _ _ => trivial) (VX2_wireOf_0 H)
def DX2_takeGivenNumbers_60 (h : Nat) (x0 : Nat) (x1 : Int32) (M : Mem) (Q : Option Value → Mem → Prop) : Prop :=
  T (h + 1) mdX2_takeGivenNumbers 2 [(0, .ref x0), (1, .int (x1 + 1))] [] M Q
set_option maxRecDepth 20000 in
set_option maxHeartbeats 2000000 in
theorem VX2_takeGivenNumbers_60 {h : Nat} {x0 : Nat} {x1 : Int32} {M : Mem} {Q : Option Value → Mem → Prop} (H : DX2_takeGivenNumbers_60 h x0 x1 M Q) : T (h + 1) mdX2_takeGivenNumbers 60 [(0, .ref x0), (1, .int x1)] [] M Q := by
  unfold DX2_takeGivenNumbers_60 at H
  refine xt_iinc (j := 1) (v := x1 + 1) (lv' := [(1, .int (x1 + 1)), (0, .ref x0)]) dX2_takeGivenNumbers_60 rfl (by rfl) (by decide) rfl ?_
  refine xt_goto (tgt := 2) dX2_takeGivenNumbers_63 (by decide) ?_
  exact xt_sub (lv' := [(0, .ref x0), (1, .int (x1 + 1))]) [1, 0] rfl H
def DX2_takeGivenNumbers_2 (h : Nat) (x0 : Nat) (x1 : Int32) (M : Mem) (Q : Option Value → Mem → Prop) : Prop :=
  ok M x0 4 ∧ ∃ b2 : Nat, mR M x0 0 = some b2 ∧ ok M b2 3 ∧ ((mI M b2 10) ≤ x1 → Q none M) ∧
  (¬ ((mI M b2 10) ≤ x1) → ∃ b4 : Nat, mR M x0 0 = some b4 ∧ ok M b4 3 ∧ ∃ b6 : Nat, mR M b4 3 = some b6 ∧ ok M b6 21 ∧ vp_in x1 (mL M b6) ∧ (((((mI M x0 6 : Int32).toUInt32 >>> ((x1 : Int32).toUInt32 &&& Int32.toUInt32 31)).toInt32) &&& 1) = 0 → DX2_takeGivenNumbers_60 h x0 x1 M Q) ∧
  (¬ (((((mI M x0 6 : Int32).toUInt32 >>> ((x1 : Int32).toUInt32 &&& Int32.toUInt32 31)).toInt32) &&& 1) = 0) → ∃ b8 : Nat, mR M x0 0 = some b8 ∧ ok M b8 3 ∧ ∃ b10 : Nat, mR M b8 2 = some b10 ∧ ok M b10 21 ∧ vp_in (mAI M b6 (x1 : Int32).toNatClampNeg) (mL M b10) ∧ ((mAI M b10 (mAI M b6 (x1 : Int32).toNatClampNeg : Int32).toNatClampNeg) = 0 → DX2_takeGivenNumbers_60 h x0 x1 M Q) ∧
  (¬ ((mAI M b10 (mAI M b6 (x1 : Int32).toNatClampNeg : Int32).toNatClampNeg) = 0) → ∃ b12 : Nat, mR M x0 3 = some b12 ∧ ∃ b13 : Nat, mR M x0 7 = some b13 ∧ ok M b13 21 ∧ vp_in x1 (mL M b13) ∧ ok M b12 21 ∧ vp_in (4 + (mAI M b6 (x1 : Int32).toNatClampNeg)) (mL M b12) ∧ ∀ M16 : Mem, M16 = wAI M b12 (4 + (mAI M b6 (x1 : Int32).toNatClampNeg) : Int32).toNatClampNeg (mAI M b13 (x1 : Int32).toNatClampNeg) →
  DX2_takeGivenNumbers_60 h x0 x1 M16 Q)))
set_option maxRecDepth 20000 in
set_option maxHeartbeats 2000000 in
theorem VX2_takeGivenNumbers_2 {h : Nat} {x0 : Nat} {x1 : Int32} {M : Mem} {Q : Option Value → Mem → Prop} (H : DX2_takeGivenNumbers_2 h x0 x1 M Q) : T (h + 1) mdX2_takeGivenNumbers 2 [(0, .ref x0), (1, .int x1)] [] M Q := by
  unfold DX2_takeGivenNumbers_2 at H
  refine xt_iload_n (j := 1) dX2_takeGivenNumbers_2 rfl rfl ?_
  refine xt_aload_n (j := 0) dX2_takeGivenNumbers_3 rfl rfl ?_
  obtain ⟨ho1, H⟩ := H
  obtain ⟨b2, hb, H⟩ := H
  refine xt_getR dX2_takeGivenNumbers_4 (flX2_35 rfl) ft_4_0 ho1.1 ho1.2 hb ?_
  obtain ⟨ho3, H⟩ := H
  refine xt_getI dX2_takeGivenNumbers_7 (flX2_99 rfl) ft_3_10 ho3.1 ho3.2 ?_
  refine xt_icmp_ge (tgt := 66) dX2_takeGivenNumbers_10 (by decide) (fun hc => ?_) (fun hc => ?_)
  · have H := H.1 hc
    exact xt_return dX2_takeGivenNumbers_66 rfl H
  · have H := H.2 hc
    refine xt_aload_n (j := 0) dX2_takeGivenNumbers_13 rfl rfl ?_
    obtain ⟨b4, hb, H⟩ := H
    refine xt_getR dX2_takeGivenNumbers_14 (flX2_35 rfl) ft_4_0 ho1.1 ho1.2 hb ?_
    obtain ⟨ho5, H⟩ := H
    obtain ⟨b6, hb, H⟩ := H
    refine xt_getR dX2_takeGivenNumbers_17 (flX2_102 rfl) ft_3_3 ho5.1 ho5.2 hb ?_
    refine xt_iload_n (j := 1) dX2_takeGivenNumbers_20 rfl rfl ?_
    obtain ⟨ho7, H⟩ := H
    obtain ⟨hi, H⟩ := H
    refine xt_iald dX2_takeGivenNumbers_21 ho7.1 ho7.2 hi ?_
    refine xt_istore_n (lv' := [(2, .int (mAI M b6 (x1 : Int32).toNatClampNeg)), (0, .ref x0), (1, .int x1)]) dX2_takeGivenNumbers_22 rfl (by decide) rfl ?_
    refine xt_aload_n (j := 1) dX2_takeGivenNumbers_23 rfl rfl ?_
    refine xt_getI dX2_takeGivenNumbers_24 (flX2_61 rfl) ft_4_6 ho1.1 ho1.2 ?_
    refine xt_iload_n (j := 2) dX2_takeGivenNumbers_27 rfl rfl ?_
    refine xt_iushr dX2_takeGivenNumbers_28 ?_
    refine xt_iconst (v := 1) dX2_takeGivenNumbers_29 (by decide) ?_
    refine xt_iand dX2_takeGivenNumbers_30 ?_
    refine xt_if_eq (tgt := 60) dX2_takeGivenNumbers_31 (by decide) (fun hc => ?_) (fun hc => ?_)
    · have H := H.1 hc
      exact xt_sub [1, 2] rfl (VX2_takeGivenNumbers_60 H)
    · have H := H.2 hc
      refine xt_aload_n (j := 1) dX2_takeGivenNumbers_34 rfl rfl ?_
      obtain ⟨b8, hb, H⟩ := H
      refine xt_getR dX2_takeGivenNumbers_35 (flX2_35 rfl) ft_4_0 ho1.1 ho1.2 hb ?_
      obtain ⟨ho9, H⟩ := H
      obtain ⟨b10, hb, H⟩ := H
      refine xt_getR dX2_takeGivenNumbers_38 (flX2_200 rfl) ft_3_2 ho9.1 ho9.2 hb ?_
      refine xt_iload_n (j := 0) dX2_takeGivenNumbers_41 rfl rfl ?_
      obtain ⟨ho11, H⟩ := H
      obtain ⟨hi, H⟩ := H
      refine xt_iald dX2_takeGivenNumbers_42 ho11.1 ho11.2 hi ?_
      refine xt_if_eq (tgt := 60) dX2_takeGivenNumbers_43 (by decide) (fun hc => ?_) (fun hc => ?_)
      · have H := H.1 hc
        exact xt_sub [1, 2] rfl (VX2_takeGivenNumbers_60 H)
      · have H := H.2 hc
        refine xt_aload_n (j := 1) dX2_takeGivenNumbers_46 rfl rfl ?_
        obtain ⟨b12, hb, H⟩ := H
        refine xt_getR dX2_takeGivenNumbers_47 (flX2_17 rfl) ft_4_3 ho1.1 ho1.2 hb ?_
        refine xt_iconst (v := 4) dX2_takeGivenNumbers_50 (by decide) ?_
        refine xt_iload_n (j := 0) dX2_takeGivenNumbers_51 rfl rfl ?_
        refine xt_iadd dX2_takeGivenNumbers_52 ?_
        refine xt_aload_n (j := 1) dX2_takeGivenNumbers_53 rfl rfl ?_
        obtain ⟨b13, hb, H⟩ := H
        refine xt_getR dX2_takeGivenNumbers_54 (flX2_25 rfl) ft_4_7 ho1.1 ho1.2 hb ?_
        refine xt_iload_n (j := 2) dX2_takeGivenNumbers_57 rfl rfl ?_
        obtain ⟨ho14, H⟩ := H
        obtain ⟨hi, H⟩ := H
        refine xt_iald dX2_takeGivenNumbers_58 ho14.1 ho14.2 hi ?_
        obtain ⟨ho15, H⟩ := H
        obtain ⟨hi, H⟩ := H
        obtain ⟨M16, eM16⟩ : ∃ z, z = wAI M b12 (4 + (mAI M b6 (x1 : Int32).toNatClampNeg) : Int32).toNatClampNeg (mAI M b13 (x1 : Int32).toNatClampNeg) := ⟨_, rfl⟩
        have H := H _ eM16
        refine xt_iast dX2_takeGivenNumbers_59 ho15.1 ho15.2 hi ?_
        have ho1 : ok M16 x0 4 := by rw [eM16]; exact ho1
        rw [← eM16]
        exact xt_sub [1, 2] rfl (VX2_takeGivenNumbers_60 H)
def DX2_takeGivenNumbers_0 (h : Nat) (x0 : Nat) (M : Mem) (Q : Option Value → Mem → Prop) : Prop :=
  T (h + 1) mdX2_takeGivenNumbers 2 [(0, .ref x0), (1, .int 0)] [] M Q
set_option maxRecDepth 20000 in
set_option maxHeartbeats 2000000 in
theorem VX2_takeGivenNumbers_0 {h : Nat} {x0 : Nat} {M : Mem} {Q : Option Value → Mem → Prop} (H : DX2_takeGivenNumbers_0 h x0 M Q) : T (h + 1) mdX2_takeGivenNumbers 0 [(0, .ref x0)] [] M Q := by
  unfold DX2_takeGivenNumbers_0 at H
  refine xt_iconst (v := 0) dX2_takeGivenNumbers_0 (by decide) ?_
  refine xt_istore_n (lv' := [(1, .int 0), (0, .ref x0)]) dX2_takeGivenNumbers_1 rfl (by decide) rfl ?_
  exact xt_sub (lv' := [(0, .ref x0), (1, .int 0)]) [1, 0] rfl H
theorem KX2_takeGivenNumbers {h : Nat} {x0 : Nat} {M : Mem} {Q : Option Value → Mem → Prop} (H : DX2_takeGivenNumbers_0 h x0 M Q) : E (h + 1) mdX2_takeGivenNumbers [.ref x0] M Q := E.of (by decide) (Nat.le_of_ble_eq_true rfl) (fun _ _ _ => trivial) (VX2_takeGivenNumbers_0 H)
def DX2_workPart_103 (h : Nat) (M : Mem) (Q : Option Value → Mem → Prop) : Prop :=
  Q none M
set_option maxRecDepth 20000 in
set_option maxHeartbeats 2000000 in
theorem VX2_workPart_103 {h : Nat} {M : Mem} {Q : Option Value → Mem → Prop} (H : DX2_workPart_103 h  M Q) : T (h + 1) mdX2_workPart 103 [] [] M Q := by
  unfold DX2_workPart_103 at H
  exact xt_return dX2_workPart_103 rfl H
def DX2_workPart_0 (h : Nat) (x0 : Nat) (x1 : Nat) (M : Mem) (Q : Option Value → Mem → Prop) : Prop :=
  ok M x1 5 ∧ (¬ (mI M x1 3) = 3 → ok M x0 4 ∧ ∃ b3 : Nat, mR M x0 0 = some b3 ∧ ok M b3 3 ∧ ∃ b5 : Nat, mR M b3 8 = some b5 ∧ ∃ b6 : Nat, mR M x0 3 = some b6 ∧ ok M b5 8 ∧ E h mdX6_work [.ref b5, .int (mI M x1 5), .ref b6] M (fun r M8 => mE M M8 → ∃ r9 : Int32, r = some (.int r9) ∧ ∃ b10 : Nat, mR M8 x0 0 = some b10 ∧ ok M8 b10 3 ∧ ∃ b12 : Nat, mR M8 b10 8 = some b12 ∧ ok M8 b12 8 ∧ ∀ M14 : Mem, M14 = wI M8 x0 12 (mI M8 b12 4) →
  ((mI M14 x0 12) = 0 → (¬ (mI M14 x1 3) = 2 → E h mdX2_emitNumber [.ref x0, .int (mI M14 x1 4), .int r9] M14 (fun r M15 => mE M14 M15 → r = none ∧ DX2_workPart_103 h  M15 Q)) ∧
  ((mI M14 x1 3) = 2 → ∃ b16 : Nat, mR M14 x0 3 = some b16 ∧ ok M14 b16 21 ∧ vp_in (20 + (mI M14 x1 4)) (mL M14 b16) ∧ ∀ M18 : Mem, M18 = wAI M14 b16 (20 + (mI M14 x1 4) : Int32).toNatClampNeg r9 →
  DX2_workPart_103 h  M18 Q)) ∧
  (¬ ((mI M14 x0 12) = 0) → Q none M14))) ∧
  ((mI M x1 3) = 3 → ok M x0 4 ∧ E h mdX2_isSo [.ref x0, .ref x1] M (fun r M20 => mE M M20 → ∃ r21 : Int32, r = some (.int r21) ∧ ∃ b22 : Nat, mR M20 x0 0 = some b22 ∧ ok M20 b22 3 ∧ ∃ b24 : Nat, mR M20 b22 8 = some b24 ∧ ok M20 b24 8 ∧ ∀ M26 : Mem, M26 = wI M20 x0 12 (mI M20 b24 4) →
  Q none M26))
set_option maxRecDepth 20000 in
set_option maxHeartbeats 2000000 in
theorem VX2_workPart_0 {h : Nat} {x0 : Nat} {x1 : Nat} {M : Mem} {Q : Option Value → Mem → Prop} (H : DX2_workPart_0 h x0 x1 M Q) : T (h + 1) mdX2_workPart 0 [(0, .ref x0), (1, .ref x1)] [] M Q := by
  unfold DX2_workPart_0 at H
  refine xt_aload_n (j := 1) dX2_workPart_0 rfl rfl ?_
  obtain ⟨ho1, H⟩ := H
  refine xt_getI dX2_workPart_1 (flX2_115 rfl) ft_5_3 ho1.1 ho1.2 ?_
  refine xt_iconst (v := 3) dX2_workPart_4 (by decide) ?_
  refine xt_icmp_ne (tgt := 29) dX2_workPart_5 (by decide) (fun hc => ?_) (fun hc => ?_)
  · have H := H.1 hc
    refine xt_aload_n (j := 0) dX2_workPart_29 rfl rfl ?_
    obtain ⟨ho2, H⟩ := H
    obtain ⟨b3, hb, H⟩ := H
    refine xt_getR dX2_workPart_30 (flX2_35 rfl) ft_4_0 ho2.1 ho2.2 hb ?_
    obtain ⟨ho4, H⟩ := H
    obtain ⟨b5, hb, H⟩ := H
    refine xt_getR dX2_workPart_33 (flX2_128 rfl) ft_3_8 ho4.1 ho4.2 hb ?_
    refine xt_aload_n (j := 1) dX2_workPart_36 rfl rfl ?_
    refine xt_getI dX2_workPart_37 (flX2_132 rfl) ft_5_5 ho1.1 ho1.2 ?_
    refine xt_aload_n (j := 0) dX2_workPart_40 rfl rfl ?_
    obtain ⟨b6, hb, H⟩ := H
    refine xt_getR dX2_workPart_41 (flX2_17 rfl) ft_4_3 ho2.1 ho2.2 hb ?_
    obtain ⟨ho7, H⟩ := H
    refine xt_callV (h2 := h) (as := [.int (mI M x1 5), .ref b6]) (st := []) dX2_workPart_44 (mlX2_135 rfl) rfl ho7.1 ⟨by rw [ho7.2]; rfl, by rw [ho7.2]; decide⟩ (by first | decide | (simp [Value.category]; done)) (Nat.le_refl _) H (fun r M8 HH hE => ?_)
    obtain ⟨r9, hr, H⟩ := HH hE
    subst hr
    have ho1 := ok_E ho1 hE
    have ho2 := ok_E ho2 hE
    show T _ _ _ _ [.int r9] _ _
    refine xt_istore_n (lv' := [(2, .int r9), (0, .ref x0), (1, .ref x1)]) dX2_workPart_47 rfl (by decide) rfl ?_
    refine xt_aload_n (j := 1) dX2_workPart_48 rfl rfl ?_
    refine xt_aload_n (j := 1) dX2_workPart_49 rfl rfl ?_
    obtain ⟨b10, hb, H⟩ := H
    refine xt_getR dX2_workPart_50 (flX2_35 rfl) ft_4_0 ho2.1 ho2.2 hb ?_
    obtain ⟨ho11, H⟩ := H
    obtain ⟨b12, hb, H⟩ := H
    refine xt_getR dX2_workPart_53 (flX2_128 rfl) ft_3_8 ho11.1 ho11.2 hb ?_
    obtain ⟨ho13, H⟩ := H
    refine xt_getI dX2_workPart_56 (flX2_141 rfl) ft_8_4 ho13.1 ho13.2 ?_
    obtain ⟨M14, eM14⟩ : ∃ z, z = wI M8 x0 12 (mI M8 b12 4) := ⟨_, rfl⟩
    have H := H _ eM14
    refine xt_putI dX2_workPart_59 (flX2_96 rfl) ty_4_12 rfl ho2.1 ho2.2 ?_
    have ho1 : ok M14 x1 5 := by rw [eM14]; exact ho1
    have ho2 : ok M14 x0 4 := by rw [eM14]; exact ho2
    rw [← eM14]
    refine xt_aload_n (j := 1) dX2_workPart_62 rfl rfl ?_
    refine xt_getI dX2_workPart_63 (flX2_96 rfl) ft_4_12 ho2.1 ho2.2 ?_
    refine xt_if_eq (tgt := 70) dX2_workPart_66 (by decide) (fun hc => ?_) (fun hc => ?_)
    · have H := H.1 hc
      refine xt_aload_n (j := 2) dX2_workPart_70 rfl rfl ?_
      refine xt_getI dX2_workPart_71 (flX2_115 rfl) ft_5_3 ho1.1 ho1.2 ?_
      refine xt_iconst (v := 2) dX2_workPart_74 (by decide) ?_
      refine xt_icmp_ne (tgt := 94) dX2_workPart_75 (by decide) (fun hc => ?_) (fun hc => ?_)
      · have H := H.1 hc
        refine xt_aload_n (j := 1) dX2_workPart_94 rfl rfl ?_
        refine xt_aload_n (j := 2) dX2_workPart_95 rfl rfl ?_
        refine xt_getI dX2_workPart_96 (flX2_118 rfl) ft_5_4 ho1.1 ho1.2 ?_
        refine xt_iload_n (j := 0) dX2_workPart_99 rfl rfl ?_
        refine xt_callV (h2 := h) (as := [.int (mI M14 x1 4), .int r9]) (st := []) dX2_workPart_100 (mlX2_203 rfl) rfl ho2.1 ⟨by rw [ho2.2]; rfl, by rw [ho2.2]; decide⟩ (by first | decide | (simp [Value.category]; done)) (Nat.le_refl _) H (fun r M15 HH hE => ?_)
        obtain ⟨hr, H⟩ := HH hE
        subst hr
        have ho1 := ok_E ho1 hE
        have ho2 := ok_E ho2 hE
        show T _ _ _ _ [] _ _
        exact xt_sub [] rfl (VX2_workPart_103 H)
      · have H := H.2 hc
        refine xt_aload_n (j := 1) dX2_workPart_78 rfl rfl ?_
        obtain ⟨b16, hb, H⟩ := H
        refine xt_getR dX2_workPart_79 (flX2_17 rfl) ft_4_3 ho2.1 ho2.2 hb ?_
        refine xt_bipush (v := 20) dX2_workPart_82 (by decide) ?_
        refine xt_aload_n (j := 2) dX2_workPart_84 rfl rfl ?_
        refine xt_getI dX2_workPart_85 (flX2_118 rfl) ft_5_4 ho1.1 ho1.2 ?_
        refine xt_iadd dX2_workPart_88 ?_
        refine xt_iload_n (j := 0) dX2_workPart_89 rfl rfl ?_
        obtain ⟨ho17, H⟩ := H
        obtain ⟨hi, H⟩ := H
        obtain ⟨M18, eM18⟩ : ∃ z, z = wAI M14 b16 (20 + (mI M14 x1 4) : Int32).toNatClampNeg r9 := ⟨_, rfl⟩
        have H := H _ eM18
        refine xt_iast dX2_workPart_90 ho17.1 ho17.2 hi ?_
        have ho1 : ok M18 x1 5 := by rw [eM18]; exact ho1
        have ho2 : ok M18 x0 4 := by rw [eM18]; exact ho2
        rw [← eM18]
        refine xt_goto (tgt := 103) dX2_workPart_91 (by decide) ?_
        exact xt_sub [] rfl (VX2_workPart_103 H)
    · have H := H.2 hc
      exact xt_return dX2_workPart_69 rfl H
  · have H := H.2 hc
    refine xt_aload_n (j := 0) dX2_workPart_8 rfl rfl ?_
    refine xt_aload_n (j := 1) dX2_workPart_9 rfl rfl ?_
    obtain ⟨ho19, H⟩ := H
    refine xt_callV (h2 := h) (as := [.ref x1]) (st := []) dX2_workPart_10 (mlX2_121 rfl) rfl ho19.1 ⟨by rw [ho19.2]; rfl, by rw [ho19.2]; decide⟩ (by first | decide | (simp [Value.category]; done)) (Nat.le_refl _) H (fun r M20 HH hE => ?_)
    obtain ⟨r21, hr, H⟩ := HH hE
    subst hr
    have ho1 := ok_E ho1 hE
    have ho19 := ok_E ho19 hE
    show T _ _ _ _ [.int r21] _ _
    refine xt_pop dX2_workPart_13 rfl ?_
    refine xt_aload_n (j := 0) dX2_workPart_14 rfl rfl ?_
    refine xt_aload_n (j := 0) dX2_workPart_15 rfl rfl ?_
    obtain ⟨b22, hb, H⟩ := H
    refine xt_getR dX2_workPart_16 (flX2_35 rfl) ft_4_0 ho19.1 ho19.2 hb ?_
    obtain ⟨ho23, H⟩ := H
    obtain ⟨b24, hb, H⟩ := H
    refine xt_getR dX2_workPart_19 (flX2_128 rfl) ft_3_8 ho23.1 ho23.2 hb ?_
    obtain ⟨ho25, H⟩ := H
    refine xt_getI dX2_workPart_22 (flX2_141 rfl) ft_8_4 ho25.1 ho25.2 ?_
    obtain ⟨M26, eM26⟩ : ∃ z, z = wI M20 x0 12 (mI M20 b24 4) := ⟨_, rfl⟩
    have H := H _ eM26
    refine xt_putI dX2_workPart_25 (flX2_96 rfl) ty_4_12 rfl ho19.1 ho19.2 ?_
    have ho1 : ok M26 x1 5 := by rw [eM26]; exact ho1
    have ho19 : ok M26 x0 4 := by rw [eM26]; exact ho19
    rw [← eM26]
    exact xt_return dX2_workPart_28 rfl H
theorem KX2_workPart {h : Nat} {x0 : Nat} {x1 : Nat} {M : Mem} {Q : Option Value → Mem → Prop} (H : DX2_workPart_0 h x0 x1 M Q) : E (h + 1) mdX2_workPart [.ref x0, .ref x1] M Q := E.of (by decide) (Nat.le_of_ble_eq_true rfl) (fun _ _ _ => trivial) (VX2_workPart_0 H)
def DX2_emitNumber_79 (h : Nat) (x0 : Nat) (x1 : Int32) (x3 : Int32) (x4 : Int64) (M : Mem) (Q : Option Value → Mem → Prop) : Prop :=
  E h mdX6_isInRange [.long x4] M (fun r M1 => mE M M1 → ∃ r2 : Int32, r = some (.int r2) ∧ (¬ r2 = 0 → ok M1 x0 4 ∧ ∀ M4 : Mem, M4 = wI M1 x0 9 ((mI M1 x0 9) ||| ((1 : Int32) <<< (x1 &&& 31))) →
  ∃ b5 : Nat, mR M4 x0 3 = some b5 ∧ ok M4 b5 21 ∧ vp_in x3 (mL M4 b5) ∧ ∀ M7 : Mem, M7 = wAI M4 b5 (x3 : Int32).toNatClampNeg ((x4 : Int64).toInt32) →
  Q none M7) ∧
  (r2 = 0 → ok M1 x0 4 ∧ ∀ M9 : Mem, M9 = wI M1 x0 12 2 →
  Q none M9))
set_option maxRecDepth 20000 in
set_option maxHeartbeats 2000000 in
theorem VX2_emitNumber_79 {h : Nat} {x0 : Nat} {x1 : Int32} {x3 : Int32} {x4 : Int64} {M : Mem} {Q : Option Value → Mem → Prop} (H : DX2_emitNumber_79 h x0 x1 x3 x4 M Q) : T (h + 1) mdX2_emitNumber 79 [(0, .ref x0), (1, .int x1), (3, .int x3), (4, .long x4)] [] M Q := by
  unfold DX2_emitNumber_79 at H
  refine xt_lload (j := 3) dX2_emitNumber_79 rfl ?_
  refine xt_callS (h2 := h) (as := [.long x4]) (st := []) dX2_emitNumber_81 (mlX2_213 rfl) rfl (by first | decide | (simp [Value.category]; done)) (Nat.le_refl _) H (fun r M1 HH hE => ?_)
  obtain ⟨r2, hr, H⟩ := HH hE
  subst hr
  show T _ _ _ _ [.int r2] _ _
  refine xt_if_ne (tgt := 93) dX2_emitNumber_84 (by decide) (fun hc => ?_) (fun hc => ?_)
  · have H := H.1 hc
    refine xt_aload_n (j := 0) dX2_emitNumber_93 rfl rfl ?_
    refine xt_dup dX2_emitNumber_94 rfl ?_
    obtain ⟨ho3, H⟩ := H
    refine xt_getI dX2_emitNumber_95 (flX2_179 rfl) ft_4_9 ho3.1 ho3.2 ?_
    refine xt_iconst (v := 1) dX2_emitNumber_98 (by decide) ?_
    refine xt_iload_n (j := 1) dX2_emitNumber_99 rfl rfl ?_
    refine xt_ishl dX2_emitNumber_100 ?_
    refine xt_ior dX2_emitNumber_101 ?_
    obtain ⟨M4, eM4⟩ : ∃ z, z = wI M1 x0 9 ((mI M1 x0 9) ||| ((1 : Int32) <<< (x1 &&& 31))) := ⟨_, rfl⟩
    have H := H _ eM4
    refine xt_putI dX2_emitNumber_102 (flX2_179 rfl) ty_4_9 rfl ho3.1 ho3.2 ?_
    have ho3 : ok M4 x0 4 := by rw [eM4]; exact ho3
    rw [← eM4]
    refine xt_aload_n (j := 0) dX2_emitNumber_105 rfl rfl ?_
    obtain ⟨b5, hb, H⟩ := H
    refine xt_getR dX2_emitNumber_106 (flX2_17 rfl) ft_4_3 ho3.1 ho3.2 hb ?_
    refine xt_iload_n (j := 2) dX2_emitNumber_109 rfl rfl ?_
    refine xt_lload (j := 3) dX2_emitNumber_110 rfl ?_
    refine xt_l2i dX2_emitNumber_112 ?_
    obtain ⟨ho6, H⟩ := H
    obtain ⟨hi, H⟩ := H
    obtain ⟨M7, eM7⟩ : ∃ z, z = wAI M4 b5 (x3 : Int32).toNatClampNeg ((x4 : Int64).toInt32) := ⟨_, rfl⟩
    have H := H _ eM7
    refine xt_iast dX2_emitNumber_113 ho6.1 ho6.2 hi ?_
    have ho3 : ok M7 x0 4 := by rw [eM7]; exact ho3
    rw [← eM7]
    exact xt_return dX2_emitNumber_114 rfl H
  · have H := H.2 hc
    refine xt_aload_n (j := 0) dX2_emitNumber_87 rfl rfl ?_
    refine xt_iconst (v := 2) dX2_emitNumber_88 (by decide) ?_
    obtain ⟨ho8, H⟩ := H
    obtain ⟨M9, eM9⟩ : ∃ z, z = wI M1 x0 12 2 := ⟨_, rfl⟩
    have H := H _ eM9
    refine xt_putI dX2_emitNumber_89 (flX2_96 rfl) ty_4_12 rfl ho8.1 ho8.2 ?_
    have ho8 : ok M9 x0 4 := by rw [eM9]; exact ho8
    rw [← eM9]
    exact xt_return dX2_emitNumber_92 rfl H
def DX2_emitNumber_77 (h : Nat) (x0 : Nat) (x1 : Int32) (x3 : Int32) (s0 : Int64) (M : Mem) (Q : Option Value → Mem → Prop) : Prop :=
  DX2_emitNumber_79 h x0 x1 x3 s0 M Q
set_option maxRecDepth 20000 in
set_option maxHeartbeats 2000000 in
theorem VX2_emitNumber_77 {h : Nat} {x0 : Nat} {x1 : Int32} {x3 : Int32} {s0 : Int64} {M : Mem} {Q : Option Value → Mem → Prop} (H : DX2_emitNumber_77 h x0 x1 x3 s0 M Q) : T (h + 1) mdX2_emitNumber 77 [(0, .ref x0), (1, .int x1), (3, .int x3)] [.long s0] M Q := by
  unfold DX2_emitNumber_77 at H
  refine xt_lstore (lv' := [(4, .long s0), (0, .ref x0), (1, .int x1), (3, .int x3)]) dX2_emitNumber_77 (by decide) rfl ?_
  exact xt_sub [1, 2, 3, 0] rfl (VX2_emitNumber_79 H)
def DX2_emitNumber_0 (h : Nat) (x0 : Nat) (x1 : Int32) (x2 : Int32) (M : Mem) (Q : Option Value → Mem → Prop) : Prop :=
  ok M x0 4 ∧ (((((mI M x0 9 : Int32).toUInt32 >>> ((x1 : Int32).toUInt32 &&& Int32.toUInt32 31)).toInt32) &&& 1) = 0 → DX2_emitNumber_79 h x0 x1 (4 + x1) ((x2 : Int32).toInt64) M Q) ∧
  (¬ (((((mI M x0 9 : Int32).toUInt32 >>> ((x1 : Int32).toUInt32 &&& Int32.toUInt32 31)).toInt32) &&& 1) = 0) → ∃ b2 : Nat, mR M x0 0 = some b2 ∧ ok M b2 3 ∧ ∃ b4 : Nat, mR M b2 2 = some b4 ∧ ok M b4 21 ∧ vp_in x1 (mL M b4) ∧ (¬ (mAI M b4 (x1 : Int32).toNatClampNeg) = 33 → ∃ b6 : Nat, mR M x0 0 = some b6 ∧ ok M b6 3 ∧ ∃ b8 : Nat, mR M b6 2 = some b8 ∧ ok M b8 21 ∧ vp_in x1 (mL M b8) ∧ (¬ (mAI M b8 (x1 : Int32).toNatClampNeg) = 34 → ∃ b10 : Nat, mR M x0 3 = some b10 ∧ ok M b10 21 ∧ vp_in (4 + x1) (mL M b10) ∧ DX2_emitNumber_77 h x0 x1 (4 + x1) ((if (mAI M b10 (4 + x1 : Int32).toNatClampNeg) < x2 then x2 else (mAI M b10 (4 + x1 : Int32).toNatClampNeg) : Int32).toInt64) M Q) ∧
  ((mAI M b8 (x1 : Int32).toNatClampNeg) = 34 → ∃ b12 : Nat, mR M x0 3 = some b12 ∧ ok M b12 21 ∧ vp_in (4 + x1) (mL M b12) ∧ DX2_emitNumber_77 h x0 x1 (4 + x1) (((mAI M b12 (4 + x1 : Int32).toNatClampNeg : Int32).toInt64) + ((x2 : Int32).toInt64)) M Q)) ∧
  ((mAI M b4 (x1 : Int32).toNatClampNeg) = 33 → ∀ M14 : Mem, M14 = wI M x0 12 3 →
  Q none M14))
set_option maxRecDepth 20000 in
set_option maxHeartbeats 2000000 in
theorem VX2_emitNumber_0 {h : Nat} {x0 : Nat} {x1 : Int32} {x2 : Int32} {M : Mem} {Q : Option Value → Mem → Prop} (H : DX2_emitNumber_0 h x0 x1 x2 M Q) : T (h + 1) mdX2_emitNumber 0 [(0, .ref x0), (1, .int x1), (2, .int x2)] [] M Q := by
  unfold DX2_emitNumber_0 at H
  refine xt_iconst (v := 4) dX2_emitNumber_0 (by decide) ?_
  refine xt_iload_n (j := 1) dX2_emitNumber_1 rfl rfl ?_
  refine xt_iadd dX2_emitNumber_2 ?_
  refine xt_istore_n (lv' := [(3, .int (4 + x1)), (0, .ref x0), (1, .int x1), (2, .int x2)]) dX2_emitNumber_3 rfl (by decide) rfl ?_
  refine xt_iload_n (j := 3) dX2_emitNumber_4 rfl rfl ?_
  refine xt_i2l dX2_emitNumber_5 ?_
  refine xt_lstore (lv' := [(4, .long ((x2 : Int32).toInt64)), (3, .int (4 + x1)), (0, .ref x0), (1, .int x1), (2, .int x2)]) dX2_emitNumber_6 (by decide) rfl ?_
  refine xt_aload_n (j := 2) dX2_emitNumber_8 rfl rfl ?_
  obtain ⟨ho1, H⟩ := H
  refine xt_getI dX2_emitNumber_9 (flX2_179 rfl) ft_4_9 ho1.1 ho1.2 ?_
  refine xt_iload_n (j := 3) dX2_emitNumber_12 rfl rfl ?_
  refine xt_iushr dX2_emitNumber_13 ?_
  refine xt_iconst (v := 1) dX2_emitNumber_14 (by decide) ?_
  refine xt_iand dX2_emitNumber_15 ?_
  refine xt_if_eq (tgt := 79) dX2_emitNumber_16 (by decide) (fun hc => ?_) (fun hc => ?_)
  · have H := H.1 hc
    exact xt_sub [2, 3, 1, 0] rfl (VX2_emitNumber_79 H)
  · have H := H.2 hc
    refine xt_aload_n (j := 2) dX2_emitNumber_19 rfl rfl ?_
    obtain ⟨b2, hb, H⟩ := H
    refine xt_getR dX2_emitNumber_20 (flX2_35 rfl) ft_4_0 ho1.1 ho1.2 hb ?_
    obtain ⟨ho3, H⟩ := H
    obtain ⟨b4, hb, H⟩ := H
    refine xt_getR dX2_emitNumber_23 (flX2_200 rfl) ft_3_2 ho3.1 ho3.2 hb ?_
    refine xt_iload_n (j := 3) dX2_emitNumber_26 rfl rfl ?_
    obtain ⟨ho5, H⟩ := H
    obtain ⟨hi, H⟩ := H
    refine xt_iald dX2_emitNumber_27 ho5.1 ho5.2 hi ?_
    refine xt_bipush (v := 33) dX2_emitNumber_28 (by decide) ?_
    refine xt_icmp_ne (tgt := 39) dX2_emitNumber_30 (by decide) (fun hc => ?_) (fun hc => ?_)
    · have H := H.1 hc
      refine xt_aload_n (j := 2) dX2_emitNumber_39 rfl rfl ?_
      obtain ⟨b6, hb, H⟩ := H
      refine xt_getR dX2_emitNumber_40 (flX2_35 rfl) ft_4_0 ho1.1 ho1.2 hb ?_
      obtain ⟨ho7, H⟩ := H
      obtain ⟨b8, hb, H⟩ := H
      refine xt_getR dX2_emitNumber_43 (flX2_200 rfl) ft_3_2 ho7.1 ho7.2 hb ?_
      refine xt_iload_n (j := 3) dX2_emitNumber_46 rfl rfl ?_
      obtain ⟨ho9, H⟩ := H
      obtain ⟨hi, H⟩ := H
      refine xt_iald dX2_emitNumber_47 ho9.1 ho9.2 hi ?_
      refine xt_bipush (v := 34) dX2_emitNumber_48 (by decide) ?_
      refine xt_icmp_ne (tgt := 66) dX2_emitNumber_50 (by decide) (fun hc => ?_) (fun hc => ?_)
      · have H := H.1 hc
        refine xt_aload_n (j := 2) dX2_emitNumber_66 rfl rfl ?_
        obtain ⟨b10, hb, H⟩ := H
        refine xt_getR dX2_emitNumber_67 (flX2_17 rfl) ft_4_3 ho1.1 ho1.2 hb ?_
        refine xt_iload_n (j := 1) dX2_emitNumber_70 rfl rfl ?_
        obtain ⟨ho11, H⟩ := H
        obtain ⟨hi, H⟩ := H
        refine xt_iald dX2_emitNumber_71 ho11.1 ho11.2 hi ?_
        refine xt_iload_n (j := 4) dX2_emitNumber_72 rfl rfl ?_
        refine xt_mmax dX2_emitNumber_73 (mmX2_208 rfl) (Nat.succ_le_succ (Nat.zero_le _)) (by first | decide | (simp [Value.category]; done)) ?_
        refine xt_i2l dX2_emitNumber_76 ?_
        exact xt_sub [2, 3, 1] rfl (VX2_emitNumber_77 H)
      · have H := H.2 hc
        refine xt_aload_n (j := 2) dX2_emitNumber_53 rfl rfl ?_
        obtain ⟨b12, hb, H⟩ := H
        refine xt_getR dX2_emitNumber_54 (flX2_17 rfl) ft_4_3 ho1.1 ho1.2 hb ?_
        refine xt_iload_n (j := 1) dX2_emitNumber_57 rfl rfl ?_
        obtain ⟨ho13, H⟩ := H
        obtain ⟨hi, H⟩ := H
        refine xt_iald dX2_emitNumber_58 ho13.1 ho13.2 hi ?_
        refine xt_i2l dX2_emitNumber_59 ?_
        refine xt_iload_n (j := 4) dX2_emitNumber_60 rfl rfl ?_
        refine xt_i2l dX2_emitNumber_61 ?_
        refine xt_ladd dX2_emitNumber_62 ?_
        refine xt_goto (tgt := 77) dX2_emitNumber_63 (by decide) ?_
        exact xt_sub [2, 3, 1] rfl (VX2_emitNumber_77 H)
    · have H := H.2 hc
      refine xt_aload_n (j := 2) dX2_emitNumber_33 rfl rfl ?_
      refine xt_iconst (v := 3) dX2_emitNumber_34 (by decide) ?_
      obtain ⟨M14, eM14⟩ : ∃ z, z = wI M x0 12 3 := ⟨_, rfl⟩
      have H := H _ eM14
      refine xt_putI dX2_emitNumber_35 (flX2_96 rfl) ty_4_12 rfl ho1.1 ho1.2 ?_
      have ho1 : ok M14 x0 4 := by rw [eM14]; exact ho1
      rw [← eM14]
      exact xt_return dX2_emitNumber_38 rfl H
theorem KX2_emitNumber {h : Nat} {x0 : Nat} {x1 : Int32} {x2 : Int32} {M : Mem} {Q : Option Value → Mem → Prop} (H : DX2_emitNumber_0 h x0 x1 x2 M Q) : E (h + 1) mdX2_emitNumber [.ref x0, .int x1, .int x2] M Q := E.of (by decide) (Nat.le_of_ble_eq_true rfl) (fun _ _ _ => trivial) (VX2_emitNumber_0 H)
def DX2_likeOther_72 (h : Nat) (x0 : Nat) (x1 : Nat) (x2 : Int32) (s0 : Int32) (M : Mem) (Q : Option Value → Mem → Prop) : Prop :=
  (¬ s0 = 0 → T (h + 1) mdX2_likeOther 2 [(0, .ref x0), (1, .ref x1), (2, .int (x2 + 1))] [] M Q) ∧
  (s0 = 0 → ((0 : Int32) = 0 ∨ (0 : Int32) = 1) ∧ Q (some (.int 0)) M)
set_option maxRecDepth 20000 in
set_option maxHeartbeats 2000000 in
theorem VX2_likeOther_72 {h : Nat} {x0 : Nat} {x1 : Nat} {x2 : Int32} {s0 : Int32} {M : Mem} {Q : Option Value → Mem → Prop} (H : DX2_likeOther_72 h x0 x1 x2 s0 M Q) : T (h + 1) mdX2_likeOther 72 [(0, .ref x0), (1, .ref x1), (2, .int x2)] [.int s0] M Q := by
  unfold DX2_likeOther_72 at H
  refine xt_istore_n (lv' := [(3, .int s0), (0, .ref x0), (1, .ref x1), (2, .int x2)]) dX2_likeOther_72 rfl (by decide) rfl ?_
  refine xt_iload_n (j := 0) dX2_likeOther_73 rfl rfl ?_
  refine xt_if_ne (tgt := 79) dX2_likeOther_74 (by decide) (fun hc => ?_) (fun hc => ?_)
  · have H := H.1 hc
    refine xt_iinc (j := 3) (v := x2 + 1) (lv' := [(2, .int (x2 + 1)), (3, .int s0), (0, .ref x0), (1, .ref x1)]) dX2_likeOther_79 rfl (by rfl) (by decide) rfl ?_
    refine xt_goto (tgt := 2) dX2_likeOther_82 (by decide) ?_
    exact xt_sub (lv' := [(0, .ref x0), (1, .ref x1), (2, .int (x2 + 1))]) [2, 3, 0] rfl H
  · have H := H.2 hc
    refine xt_iconst (v := 0) dX2_likeOther_77 (by decide) ?_
    exact xt_zreturn dX2_likeOther_78 rfl H.1 H.2
def DX2_likeOther_41 (h : Nat) (x0 : Nat) (x1 : Nat) (x2 : Int32) (s0 : Int32) (s1 : Int32) (M : Mem) (Q : Option Value → Mem → Prop) : Prop :=
  (¬ s0 = s1 → DX2_likeOther_72 h x0 x1 x2 0 M Q) ∧
  (s0 = s1 → DX2_likeOther_72 h x0 x1 x2 1 M Q)
set_option maxRecDepth 20000 in
set_option maxHeartbeats 2000000 in
theorem VX2_likeOther_41 {h : Nat} {x0 : Nat} {x1 : Nat} {x2 : Int32} {s0 : Int32} {s1 : Int32} {M : Mem} {Q : Option Value → Mem → Prop} (H : DX2_likeOther_41 h x0 x1 x2 s0 s1 M Q) : T (h + 1) mdX2_likeOther 41 [(0, .ref x0), (1, .ref x1), (2, .int x2)] [.int s1, .int s0] M Q := by
  unfold DX2_likeOther_41 at H
  refine xt_icmp_ne (tgt := 48) dX2_likeOther_41 (by decide) (fun hc => ?_) (fun hc => ?_)
  · have H := H.1 hc
    refine xt_iconst (v := 0) dX2_likeOther_48 (by decide) ?_
    refine xt_goto (tgt := 72) dX2_likeOther_49 (by decide) ?_
    exact xt_sub [0, 1, 2] rfl (VX2_likeOther_72 H)
  · have H := H.2 hc
    refine xt_iconst (v := 1) dX2_likeOther_44 (by decide) ?_
    refine xt_goto (tgt := 72) dX2_likeOther_45 (by decide) ?_
    exact xt_sub [0, 1, 2] rfl (VX2_likeOther_72 H)
def DX2_likeOther_27 (h : Nat) (x0 : Nat) (x1 : Nat) (x2 : Int32) (s0 : Int32) (M : Mem) (Q : Option Value → Mem → Prop) : Prop :=
  ok M x1 4 ∧ ∃ b2 : Nat, mR M x1 2 = some b2 ∧ ok M b2 21 ∧ vp_in x2 (mL M b2) ∧ (¬ (mAI M b2 (x2 : Int32).toNatClampNeg) = 0 → DX2_likeOther_41 h x0 x1 x2 s0 0 M Q) ∧
  ((mAI M b2 (x2 : Int32).toNatClampNeg) = 0 → DX2_likeOther_41 h x0 x1 x2 s0 1 M Q)
set_option maxRecDepth 20000 in
set_option maxHeartbeats 2000000 in
theorem VX2_likeOther_27 {h : Nat} {x0 : Nat} {x1 : Nat} {x2 : Int32} {s0 : Int32} {M : Mem} {Q : Option Value → Mem → Prop} (H : DX2_likeOther_27 h x0 x1 x2 s0 M Q) : T (h + 1) mdX2_likeOther 27 [(0, .ref x0), (1, .ref x1), (2, .int x2)] [.int s0] M Q := by
  unfold DX2_likeOther_27 at H
  refine xt_aload_n (j := 1) dX2_likeOther_27 rfl rfl ?_
  obtain ⟨ho1, H⟩ := H
  obtain ⟨b2, hb, H⟩ := H
  refine xt_getR dX2_likeOther_28 (flX2_13 rfl) ft_4_2 ho1.1 ho1.2 hb ?_
  refine xt_iload_n (j := 2) dX2_likeOther_31 rfl rfl ?_
  obtain ⟨ho3, H⟩ := H
  obtain ⟨hi, H⟩ := H
  refine xt_iald dX2_likeOther_32 ho3.1 ho3.2 hi ?_
  refine xt_if_ne (tgt := 40) dX2_likeOther_33 (by decide) (fun hc => ?_) (fun hc => ?_)
  · have H := H.1 hc
    refine xt_iconst (v := 0) dX2_likeOther_40 (by decide) ?_
    exact xt_sub [0, 1, 2] rfl (VX2_likeOther_41 H)
  · have H := H.2 hc
    refine xt_iconst (v := 1) dX2_likeOther_36 (by decide) ?_
    refine xt_goto (tgt := 41) dX2_likeOther_37 (by decide) ?_
    exact xt_sub [0, 1, 2] rfl (VX2_likeOther_41 H)
def DX2_likeOther_2 (h : Nat) (x0 : Nat) (x1 : Nat) (x2 : Int32) (M : Mem) (Q : Option Value → Mem → Prop) : Prop :=
  (26 ≤ x2 → ((1 : Int32) = 0 ∨ (1 : Int32) = 1) ∧ Q (some (.int 1)) M) ∧
  (¬ (26 ≤ x2) → (¬ x2 = 2 → ok M x0 4 ∧ ∃ b2 : Nat, mR M x0 2 = some b2 ∧ ok M b2 21 ∧ vp_in x2 (mL M b2) ∧ ok M x1 4 ∧ ∃ b5 : Nat, mR M x1 2 = some b5 ∧ ok M b5 21 ∧ vp_in x2 (mL M b5) ∧ (¬ (mAI M b2 (x2 : Int32).toNatClampNeg) = (mAI M b5 (x2 : Int32).toNatClampNeg) → DX2_likeOther_72 h x0 x1 x2 0 M Q) ∧
  ((mAI M b2 (x2 : Int32).toNatClampNeg) = (mAI M b5 (x2 : Int32).toNatClampNeg) → DX2_likeOther_72 h x0 x1 x2 1 M Q)) ∧
  (x2 = 2 → ok M x0 4 ∧ ∃ b8 : Nat, mR M x0 2 = some b8 ∧ ok M b8 21 ∧ vp_in x2 (mL M b8) ∧ (¬ (mAI M b8 (x2 : Int32).toNatClampNeg) = 0 → DX2_likeOther_27 h x0 x1 x2 0 M Q) ∧
  ((mAI M b8 (x2 : Int32).toNatClampNeg) = 0 → DX2_likeOther_27 h x0 x1 x2 1 M Q)))
set_option maxRecDepth 20000 in
set_option maxHeartbeats 2000000 in
theorem VX2_likeOther_2 {h : Nat} {x0 : Nat} {x1 : Nat} {x2 : Int32} {M : Mem} {Q : Option Value → Mem → Prop} (H : DX2_likeOther_2 h x0 x1 x2 M Q) : T (h + 1) mdX2_likeOther 2 [(0, .ref x0), (1, .ref x1), (2, .int x2)] [] M Q := by
  unfold DX2_likeOther_2 at H
  refine xt_iload_n (j := 2) dX2_likeOther_2 rfl rfl ?_
  refine xt_bipush (v := 26) dX2_likeOther_3 (by decide) ?_
  refine xt_icmp_ge (tgt := 85) dX2_likeOther_5 (by decide) (fun hc => ?_) (fun hc => ?_)
  · have H := H.1 hc
    refine xt_iconst (v := 1) dX2_likeOther_85 (by decide) ?_
    exact xt_zreturn dX2_likeOther_86 rfl H.1 H.2
  · have H := H.2 hc
    refine xt_iload_n (j := 2) dX2_likeOther_8 rfl rfl ?_
    refine xt_iconst (v := 2) dX2_likeOther_9 (by decide) ?_
    refine xt_icmp_ne (tgt := 52) dX2_likeOther_10 (by decide) (fun hc => ?_) (fun hc => ?_)
    · have H := H.1 hc
      refine xt_aload_n (j := 0) dX2_likeOther_52 rfl rfl ?_
      obtain ⟨ho1, H⟩ := H
      obtain ⟨b2, hb, H⟩ := H
      refine xt_getR dX2_likeOther_53 (flX2_13 rfl) ft_4_2 ho1.1 ho1.2 hb ?_
      refine xt_iload_n (j := 2) dX2_likeOther_56 rfl rfl ?_
      obtain ⟨ho3, H⟩ := H
      obtain ⟨hi, H⟩ := H
      refine xt_iald dX2_likeOther_57 ho3.1 ho3.2 hi ?_
      refine xt_aload_n (j := 1) dX2_likeOther_58 rfl rfl ?_
      obtain ⟨ho4, H⟩ := H
      obtain ⟨b5, hb, H⟩ := H
      refine xt_getR dX2_likeOther_59 (flX2_13 rfl) ft_4_2 ho4.1 ho4.2 hb ?_
      refine xt_iload_n (j := 2) dX2_likeOther_62 rfl rfl ?_
      obtain ⟨ho6, H⟩ := H
      obtain ⟨hi, H⟩ := H
      refine xt_iald dX2_likeOther_63 ho6.1 ho6.2 hi ?_
      refine xt_icmp_ne (tgt := 71) dX2_likeOther_64 (by decide) (fun hc => ?_) (fun hc => ?_)
      · have H := H.1 hc
        refine xt_iconst (v := 0) dX2_likeOther_71 (by decide) ?_
        exact xt_sub [0, 1, 2] rfl (VX2_likeOther_72 H)
      · have H := H.2 hc
        refine xt_iconst (v := 1) dX2_likeOther_67 (by decide) ?_
        refine xt_goto (tgt := 72) dX2_likeOther_68 (by decide) ?_
        exact xt_sub [0, 1, 2] rfl (VX2_likeOther_72 H)
    · have H := H.2 hc
      refine xt_aload_n (j := 0) dX2_likeOther_13 rfl rfl ?_
      obtain ⟨ho7, H⟩ := H
      obtain ⟨b8, hb, H⟩ := H
      refine xt_getR dX2_likeOther_14 (flX2_13 rfl) ft_4_2 ho7.1 ho7.2 hb ?_
      refine xt_iload_n (j := 2) dX2_likeOther_17 rfl rfl ?_
      obtain ⟨ho9, H⟩ := H
      obtain ⟨hi, H⟩ := H
      refine xt_iald dX2_likeOther_18 ho9.1 ho9.2 hi ?_
      refine xt_if_ne (tgt := 26) dX2_likeOther_19 (by decide) (fun hc => ?_) (fun hc => ?_)
      · have H := H.1 hc
        refine xt_iconst (v := 0) dX2_likeOther_26 (by decide) ?_
        exact xt_sub [0, 1, 2] rfl (VX2_likeOther_27 H)
      · have H := H.2 hc
        refine xt_iconst (v := 1) dX2_likeOther_22 (by decide) ?_
        refine xt_goto (tgt := 27) dX2_likeOther_23 (by decide) ?_
        exact xt_sub [0, 1, 2] rfl (VX2_likeOther_27 H)
def DX2_likeOther_0 (h : Nat) (x0 : Nat) (x1 : Nat) (M : Mem) (Q : Option Value → Mem → Prop) : Prop :=
  T (h + 1) mdX2_likeOther 2 [(0, .ref x0), (1, .ref x1), (2, .int 0)] [] M Q
set_option maxRecDepth 20000 in
set_option maxHeartbeats 2000000 in
theorem VX2_likeOther_0 {h : Nat} {x0 : Nat} {x1 : Nat} {M : Mem} {Q : Option Value → Mem → Prop} (H : DX2_likeOther_0 h x0 x1 M Q) : T (h + 1) mdX2_likeOther 0 [(0, .ref x0), (1, .ref x1)] [] M Q := by
  unfold DX2_likeOther_0 at H
  refine xt_iconst (v := 0) dX2_likeOther_0 (by decide) ?_
  refine xt_istore_n (lv' := [(2, .int 0), (0, .ref x0), (1, .ref x1)]) dX2_likeOther_1 rfl (by decide) rfl ?_
  exact xt_sub (lv' := [(0, .ref x0), (1, .ref x1), (2, .int 0)]) [1, 2, 0] rfl H
theorem KX2_likeOther {h : Nat} {x0 : Nat} {x1 : Nat} {M : Mem} {Q : Option Value → Mem → Prop} (H : DX2_likeOther_0 h x0 x1 M Q) : E (h + 1) mdX2_likeOther [.ref x0, .ref x1] M Q := E.of (by decide) (Nat.le_of_ble_eq_true rfl) (fun _ _ _ => trivial) (VX2_likeOther_0 H)
def DX3_init_0 (h : Nat) (x0 : Nat) (x1 : Int32) (M : Mem) (Q : Option Value → Mem → Prop) : Prop :=
  ok M x0 5 ∧ ∀ M2 : Mem, M2 = wI M x0 0 x1 →
  Q none M2
set_option maxRecDepth 20000 in
set_option maxHeartbeats 2000000 in
theorem VX3_init_0 {h : Nat} {x0 : Nat} {x1 : Int32} {M : Mem} {Q : Option Value → Mem → Prop} (H : DX3_init_0 h x0 x1 M Q) : T (h + 1) mdX3_init 0 [(0, .ref x0), (1, .int x1)] [] M Q := by
  unfold DX3_init_0 at H
  refine xt_aload_n (j := 0) dX3_init_0 rfl rfl ?_
  refine xt_objInit dX3_init_1 (oiX3_1 rfl) (by decide) (Nat.succ_le_succ (Nat.zero_le _)) ?_
  refine xt_aload_n (j := 0) dX3_init_4 rfl rfl ?_
  refine xt_iload_n (j := 1) dX3_init_5 rfl rfl ?_
  obtain ⟨ho1, H⟩ := H
  obtain ⟨M2, eM2⟩ : ∃ z, z = wI M x0 0 x1 := ⟨_, rfl⟩
  have H := H _ eM2
  refine xt_putI dX3_init_6 (flX3_7 rfl) ty_5_0 rfl ho1.1 ho1.2 ?_
  have ho1 : ok M2 x0 5 := by rw [eM2]; exact ho1
  rw [← eM2]
  exact xt_return dX3_init_9 rfl H
theorem KX3_init {h : Nat} {x0 : Nat} {x1 : Int32} {M : Mem} {Q : Option Value → Mem → Prop} (H : DX3_init_0 h x0 x1 M Q) : E (h + 1) mdX3_init [.ref x0, .int x1] M Q := E.of (by decide) (Nat.le_of_ble_eq_true rfl) (fun _ _ _ => trivial) (VX3_init_0 H)
def DX5_init_64 (h : Nat) (x0 : Nat) (x1 : Nat) (s0 : Int32) (M : Mem) (Q : Option Value → Mem → Prop) : Prop :=
  ok M x1 3 ∧ ∃ b2 : Nat, mR M x1 7 = some b2 ∧ ok M b2 2 ∧ E h mdX0_beforeMask [.ref b2] M (fun r M4 => mE M M4 → ∃ r5 : Int32, r = some (.int r5) ∧ ok M4 x0 7 ∧ ∀ M7 : Mem, M7 = wI M4 x0 4 r5 →
  ¬ (s0 : Int32) < 0 ∧ ((s0 : Int32).toNatClampNeg ≤ 100000000) ∧ ∀ (q9 : Nat) (M8 : Mem), q9 = mN M7 → M8 = nwA M7 21 ((s0 : Int32).toNatClampNeg) →
  ∀ M10 : Mem, M10 = wR M8 x0 5 (some q9) →
  ¬ (s0 : Int32) < 0 ∧ ((s0 : Int32).toNatClampNeg ≤ 100000000) ∧ ∀ (q12 : Nat) (M11 : Mem), q12 = mN M10 → M11 = nwA M10 21 ((s0 : Int32).toNatClampNeg) →
  ∀ M13 : Mem, M13 = wR M11 x0 6 (some q12) →
  ¬ (s0 : Int32) < 0 ∧ ((s0 : Int32).toNatClampNeg ≤ 100000000) ∧ ∀ (q15 : Nat) (M14 : Mem), q15 = mN M13 → M14 = nwA M13 21 ((s0 : Int32).toNatClampNeg) →
  ∀ M16 : Mem, M16 = wR M14 x0 7 (some q15) →
  ¬ (s0 : Int32) < 0 ∧ ((s0 : Int32).toNatClampNeg ≤ 100000000) ∧ ∀ (q18 : Nat) (M17 : Mem), q18 = mN M16 → M17 = nwA M16 21 ((s0 : Int32).toNatClampNeg) →
  ∀ M19 : Mem, M19 = wR M17 x0 8 (some q18) →
  ¬ (s0 * (mI M19 x0 1) : Int32) < 0 ∧ ((s0 * (mI M19 x0 1) : Int32).toNatClampNeg ≤ 100000000) ∧ ∀ (q21 : Nat) (M20 : Mem), q21 = mN M19 → M20 = nwA M19 21 ((s0 * (mI M19 x0 1) : Int32).toNatClampNeg) →
  ∀ M22 : Mem, M22 = wR M20 x0 9 (some q21) →
  ¬ (s0 * (mI M22 x0 1) : Int32) < 0 ∧ ((s0 * (mI M22 x0 1) : Int32).toNatClampNeg ≤ 100000000) ∧ ∀ (q24 : Nat) (M23 : Mem), q24 = mN M22 → M23 = nwA M22 21 ((s0 * (mI M22 x0 1) : Int32).toNatClampNeg) →
  ∀ M25 : Mem, M25 = wR M23 x0 10 (some q24) →
  ¬ (s0 : Int32) < 0 ∧ ((s0 : Int32).toNatClampNeg ≤ 100000000) ∧ ∀ (q27 : Nat) (M26 : Mem), q27 = mN M25 → M26 = nwA M25 21 ((s0 : Int32).toNatClampNeg) →
  ∀ M28 : Mem, M28 = wR M26 x0 11 (some q27) →
  ¬ (s0 : Int32) < 0 ∧ ((s0 : Int32).toNatClampNeg ≤ 100000000) ∧ ∀ (q30 : Nat) (M29 : Mem), q30 = mN M28 → M29 = nwA M28 21 ((s0 : Int32).toNatClampNeg) →
  ∀ M31 : Mem, M31 = wR M29 x0 12 (some q30) →
  Q none M31)
set_option maxRecDepth 20000 in
set_option maxHeartbeats 2000000 in
theorem VX5_init_64 {h : Nat} {x0 : Nat} {x1 : Nat} {s0 : Int32} {M : Mem} {Q : Option Value → Mem → Prop} (H : DX5_init_64 h x0 x1 s0 M Q) : T (h + 1) mdX5_init 64 [(0, .ref x0), (1, .ref x1)] [.int s0] M Q := by
  unfold DX5_init_64 at H
  refine xt_istore_n (lv' := [(3, .int s0), (0, .ref x0), (1, .ref x1)]) dX5_init_64 rfl (by decide) rfl ?_
  refine xt_aload_n (j := 1) dX5_init_65 rfl rfl ?_
  refine xt_aload_n (j := 2) dX5_init_66 rfl rfl ?_
  obtain ⟨ho1, H⟩ := H
  obtain ⟨b2, hb, H⟩ := H
  refine xt_getR dX5_init_67 (flX5_31 rfl) ft_3_7 ho1.1 ho1.2 hb ?_
  obtain ⟨ho3, H⟩ := H
  refine xt_callV (h2 := h) (as := []) (st := [.ref x0]) dX5_init_70 (mlX5_35 rfl) rfl ho3.1 ⟨by rw [ho3.2]; rfl, by rw [ho3.2]; decide⟩ (by first | decide | (simp [Value.category]; done)) (Nat.le_refl _) H (fun r M4 HH hE => ?_)
  obtain ⟨r5, hr, H⟩ := HH hE
  subst hr
  have ho1 := ok_E ho1 hE
  show T _ _ _ _ [.int r5, .ref x0] _ _
  obtain ⟨ho6, H⟩ := H
  obtain ⟨M7, eM7⟩ : ∃ z, z = wI M4 x0 4 r5 := ⟨_, rfl⟩
  have H := H _ eM7
  refine xt_putI dX5_init_73 (flX5_41 rfl) ty_7_4 rfl ho6.1 ho6.2 ?_
  have ho1 : ok M7 x1 3 := by rw [eM7]; exact ho1
  have ho6 : ok M7 x0 7 := by rw [eM7]; exact ho6
  rw [← eM7]
  refine xt_aload_n (j := 1) dX5_init_76 rfl rfl ?_
  refine xt_iload_n (j := 0) dX5_init_77 rfl rfl ?_
  obtain ⟨hn, hy, H⟩ := H
  obtain ⟨M8, eM8⟩ : ∃ z, z = nwA M7 21 ((s0 : Int32).toNatClampNeg) := ⟨_, rfl⟩
  obtain ⟨q9, eq9⟩ : ∃ z, z = mN M7 := ⟨_, rfl⟩
  have H := H _ _ eq9 eM8
  refine xt_newI dX5_init_78 ac_I hn rfl hy ?_
  have ho1 : ok M8 x1 3 := by rw [eM8]; exact ok_nwA ho1
  have ho6 : ok M8 x0 7 := by rw [eM8]; exact ok_nwA ho6
  rw [← eM8, ← eq9]
  obtain ⟨M10, eM10⟩ : ∃ z, z = wR M8 x0 5 (some q9) := ⟨_, rfl⟩
  have H := H _ eM10
  refine xt_putR dX5_init_80 (flX5_43 rfl) ft_7_5 rfl ho6.1 ho6.2 ?_
  have ho1 : ok M10 x1 3 := by rw [eM10]; exact ho1
  have ho6 : ok M10 x0 7 := by rw [eM10]; exact ho6
  rw [← eM10]
  refine xt_aload_n (j := 1) dX5_init_83 rfl rfl ?_
  refine xt_iload_n (j := 0) dX5_init_84 rfl rfl ?_
  obtain ⟨hn, hy, H⟩ := H
  obtain ⟨M11, eM11⟩ : ∃ z, z = nwA M10 21 ((s0 : Int32).toNatClampNeg) := ⟨_, rfl⟩
  obtain ⟨q12, eq12⟩ : ∃ z, z = mN M10 := ⟨_, rfl⟩
  have H := H _ _ eq12 eM11
  refine xt_newI dX5_init_85 ac_I hn rfl hy ?_
  have ho1 : ok M11 x1 3 := by rw [eM11]; exact ok_nwA ho1
  have ho6 : ok M11 x0 7 := by rw [eM11]; exact ok_nwA ho6
  rw [← eM11, ← eq12]
  obtain ⟨M13, eM13⟩ : ∃ z, z = wR M11 x0 6 (some q12) := ⟨_, rfl⟩
  have H := H _ eM13
  refine xt_putR dX5_init_87 (flX5_47 rfl) ft_7_6 rfl ho6.1 ho6.2 ?_
  have ho1 : ok M13 x1 3 := by rw [eM13]; exact ho1
  have ho6 : ok M13 x0 7 := by rw [eM13]; exact ho6
  rw [← eM13]
  refine xt_aload_n (j := 1) dX5_init_90 rfl rfl ?_
  refine xt_iload_n (j := 0) dX5_init_91 rfl rfl ?_
  obtain ⟨hn, hy, H⟩ := H
  obtain ⟨M14, eM14⟩ : ∃ z, z = nwA M13 21 ((s0 : Int32).toNatClampNeg) := ⟨_, rfl⟩
  obtain ⟨q15, eq15⟩ : ∃ z, z = mN M13 := ⟨_, rfl⟩
  have H := H _ _ eq15 eM14
  refine xt_newI dX5_init_92 ac_I hn rfl hy ?_
  have ho1 : ok M14 x1 3 := by rw [eM14]; exact ok_nwA ho1
  have ho6 : ok M14 x0 7 := by rw [eM14]; exact ok_nwA ho6
  rw [← eM14, ← eq15]
  obtain ⟨M16, eM16⟩ : ∃ z, z = wR M14 x0 7 (some q15) := ⟨_, rfl⟩
  have H := H _ eM16
  refine xt_putR dX5_init_94 (flX5_50 rfl) ft_7_7 rfl ho6.1 ho6.2 ?_
  have ho1 : ok M16 x1 3 := by rw [eM16]; exact ho1
  have ho6 : ok M16 x0 7 := by rw [eM16]; exact ho6
  rw [← eM16]
  refine xt_aload_n (j := 1) dX5_init_97 rfl rfl ?_
  refine xt_iload_n (j := 0) dX5_init_98 rfl rfl ?_
  obtain ⟨hn, hy, H⟩ := H
  obtain ⟨M17, eM17⟩ : ∃ z, z = nwA M16 21 ((s0 : Int32).toNatClampNeg) := ⟨_, rfl⟩
  obtain ⟨q18, eq18⟩ : ∃ z, z = mN M16 := ⟨_, rfl⟩
  have H := H _ _ eq18 eM17
  refine xt_newI dX5_init_99 ac_I hn rfl hy ?_
  have ho1 : ok M17 x1 3 := by rw [eM17]; exact ok_nwA ho1
  have ho6 : ok M17 x0 7 := by rw [eM17]; exact ok_nwA ho6
  rw [← eM17, ← eq18]
  obtain ⟨M19, eM19⟩ : ∃ z, z = wR M17 x0 8 (some q18) := ⟨_, rfl⟩
  have H := H _ eM19
  refine xt_putR dX5_init_101 (flX5_53 rfl) ft_7_8 rfl ho6.1 ho6.2 ?_
  have ho1 : ok M19 x1 3 := by rw [eM19]; exact ho1
  have ho6 : ok M19 x0 7 := by rw [eM19]; exact ho6
  rw [← eM19]
  refine xt_aload_n (j := 1) dX5_init_104 rfl rfl ?_
  refine xt_iload_n (j := 0) dX5_init_105 rfl rfl ?_
  refine xt_aload_n (j := 1) dX5_init_106 rfl rfl ?_
  refine xt_getI dX5_init_107 (flX5_28 rfl) ft_7_1 ho6.1 ho6.2 ?_
  refine xt_imul dX5_init_110 ?_
  obtain ⟨hn, hy, H⟩ := H
  obtain ⟨M20, eM20⟩ : ∃ z, z = nwA M19 21 ((s0 * (mI M19 x0 1) : Int32).toNatClampNeg) := ⟨_, rfl⟩
  obtain ⟨q21, eq21⟩ : ∃ z, z = mN M19 := ⟨_, rfl⟩
  have H := H _ _ eq21 eM20
  refine xt_newI dX5_init_111 ac_I hn rfl hy ?_
  have ho1 : ok M20 x1 3 := by rw [eM20]; exact ok_nwA ho1
  have ho6 : ok M20 x0 7 := by rw [eM20]; exact ok_nwA ho6
  rw [← eM20, ← eq21]
  obtain ⟨M22, eM22⟩ : ∃ z, z = wR M20 x0 9 (some q21) := ⟨_, rfl⟩
  have H := H _ eM22
  refine xt_putR dX5_init_113 (flX5_56 rfl) ft_7_9 rfl ho6.1 ho6.2 ?_
  have ho1 : ok M22 x1 3 := by rw [eM22]; exact ho1
  have ho6 : ok M22 x0 7 := by rw [eM22]; exact ho6
  rw [← eM22]
  refine xt_aload_n (j := 1) dX5_init_116 rfl rfl ?_
  refine xt_iload_n (j := 0) dX5_init_117 rfl rfl ?_
  refine xt_aload_n (j := 1) dX5_init_118 rfl rfl ?_
  refine xt_getI dX5_init_119 (flX5_28 rfl) ft_7_1 ho6.1 ho6.2 ?_
  refine xt_imul dX5_init_122 ?_
  obtain ⟨hn, hy, H⟩ := H
  obtain ⟨M23, eM23⟩ : ∃ z, z = nwA M22 21 ((s0 * (mI M22 x0 1) : Int32).toNatClampNeg) := ⟨_, rfl⟩
  obtain ⟨q24, eq24⟩ : ∃ z, z = mN M22 := ⟨_, rfl⟩
  have H := H _ _ eq24 eM23
  refine xt_newI dX5_init_123 ac_I hn rfl hy ?_
  have ho1 : ok M23 x1 3 := by rw [eM23]; exact ok_nwA ho1
  have ho6 : ok M23 x0 7 := by rw [eM23]; exact ok_nwA ho6
  rw [← eM23, ← eq24]
  obtain ⟨M25, eM25⟩ : ∃ z, z = wR M23 x0 10 (some q24) := ⟨_, rfl⟩
  have H := H _ eM25
  refine xt_putR dX5_init_125 (flX5_59 rfl) ft_7_10 rfl ho6.1 ho6.2 ?_
  have ho1 : ok M25 x1 3 := by rw [eM25]; exact ho1
  have ho6 : ok M25 x0 7 := by rw [eM25]; exact ho6
  rw [← eM25]
  refine xt_aload_n (j := 1) dX5_init_128 rfl rfl ?_
  refine xt_iload_n (j := 0) dX5_init_129 rfl rfl ?_
  obtain ⟨hn, hy, H⟩ := H
  obtain ⟨M26, eM26⟩ : ∃ z, z = nwA M25 21 ((s0 : Int32).toNatClampNeg) := ⟨_, rfl⟩
  obtain ⟨q27, eq27⟩ : ∃ z, z = mN M25 := ⟨_, rfl⟩
  have H := H _ _ eq27 eM26
  refine xt_newI dX5_init_130 ac_I hn rfl hy ?_
  have ho1 : ok M26 x1 3 := by rw [eM26]; exact ok_nwA ho1
  have ho6 : ok M26 x0 7 := by rw [eM26]; exact ok_nwA ho6
  rw [← eM26, ← eq27]
  obtain ⟨M28, eM28⟩ : ∃ z, z = wR M26 x0 11 (some q27) := ⟨_, rfl⟩
  have H := H _ eM28
  refine xt_putR dX5_init_132 (flX5_62 rfl) ft_7_11 rfl ho6.1 ho6.2 ?_
  have ho1 : ok M28 x1 3 := by rw [eM28]; exact ho1
  have ho6 : ok M28 x0 7 := by rw [eM28]; exact ho6
  rw [← eM28]
  refine xt_aload_n (j := 1) dX5_init_135 rfl rfl ?_
  refine xt_iload_n (j := 0) dX5_init_136 rfl rfl ?_
  obtain ⟨hn, hy, H⟩ := H
  obtain ⟨M29, eM29⟩ : ∃ z, z = nwA M28 21 ((s0 : Int32).toNatClampNeg) := ⟨_, rfl⟩
  obtain ⟨q30, eq30⟩ : ∃ z, z = mN M28 := ⟨_, rfl⟩
  have H := H _ _ eq30 eM29
  refine xt_newI dX5_init_137 ac_I hn rfl hy ?_
  have ho1 : ok M29 x1 3 := by rw [eM29]; exact ok_nwA ho1
  have ho6 : ok M29 x0 7 := by rw [eM29]; exact ok_nwA ho6
  rw [← eM29, ← eq30]
  obtain ⟨M31, eM31⟩ : ∃ z, z = wR M29 x0 12 (some q30) := ⟨_, rfl⟩
  have H := H _ eM31
  refine xt_putR dX5_init_139 (flX5_65 rfl) ft_7_12 rfl ho6.1 ho6.2 ?_
  have ho1 : ok M31 x1 3 := by rw [eM31]; exact ho1
  have ho6 : ok M31 x0 7 := by rw [eM31]; exact ho6
  rw [← eM31]
  exact xt_return dX5_init_142 rfl H
def DX5_init_48 (h : Nat) (x0 : Nat) (x1 : Nat) (s0 : Nat) (s1 : Int32) (M : Mem) (Q : Option Value → Mem → Prop) : Prop :=
  ok M s0 7 ∧ ∀ M2 : Mem, M2 = wI M s0 1 s1 →
  ok M2 x0 7 ∧ ((mI M2 x0 2) = 0 → DX5_init_64 h x0 x1 48 M2 Q) ∧
  (¬ ((mI M2 x0 2) = 0) → DX5_init_64 h x0 x1 0 M2 Q)
set_option maxRecDepth 20000 in
set_option maxHeartbeats 2000000 in
theorem VX5_init_48 {h : Nat} {x0 : Nat} {x1 : Nat} {s0 : Nat} {s1 : Int32} {M : Mem} {Q : Option Value → Mem → Prop} (H : DX5_init_48 h x0 x1 s0 s1 M Q) : T (h + 1) mdX5_init 48 [(0, .ref x0), (1, .ref x1)] [.int s1, .ref s0] M Q := by
  unfold DX5_init_48 at H
  obtain ⟨ho1, H⟩ := H
  obtain ⟨M2, eM2⟩ : ∃ z, z = wI M s0 1 s1 := ⟨_, rfl⟩
  have H := H _ eM2
  refine xt_putI dX5_init_48 (flX5_28 rfl) ty_7_1 rfl ho1.1 ho1.2 ?_
  rw [← eM2]
  refine xt_aload_n (j := 0) dX5_init_51 rfl rfl ?_
  obtain ⟨ho3, H⟩ := H
  refine xt_getI dX5_init_52 (flX5_24 rfl) ft_7_2 ho3.1 ho3.2 ?_
  refine xt_if_eq (tgt := 62) dX5_init_55 (by decide) (fun hc => ?_) (fun hc => ?_)
  · have H := H.1 hc
    refine xt_bipush (v := 48) dX5_init_62 (by decide) ?_
    exact xt_sub [0, 1] rfl (VX5_init_64 H)
  · have H := H.2 hc
    refine xt_iconst (v := 0) dX5_init_58 (by decide) ?_
    refine xt_goto (tgt := 64) dX5_init_59 (by decide) ?_
    exact xt_sub [0, 1] rfl (VX5_init_64 H)
def DX5_init_30 (h : Nat) (x0 : Nat) (x1 : Nat) (x2 : Int32) (s0 : Nat) (s1 : Int32) (M : Mem) (Q : Option Value → Mem → Prop) : Prop :=
  ok M s0 7 ∧ (s1 = 0 ∨ s1 = 1) ∧ ∀ M2 : Mem, M2 = wI M s0 2 s1 →
  ok M2 x0 7 ∧ ((mI M2 x0 2) = 0 → DX5_init_48 h x0 x1 x0 ((1 : Int32) <<< (x2 &&& 31)) M2 Q) ∧
  (¬ ((mI M2 x0 2) = 0) → DX5_init_48 h x0 x1 x0 1 M2 Q)
set_option maxRecDepth 20000 in
set_option maxHeartbeats 2000000 in
theorem VX5_init_30 {h : Nat} {x0 : Nat} {x1 : Nat} {x2 : Int32} {s0 : Nat} {s1 : Int32} {M : Mem} {Q : Option Value → Mem → Prop} (H : DX5_init_30 h x0 x1 x2 s0 s1 M Q) : T (h + 1) mdX5_init 30 [(0, .ref x0), (1, .ref x1), (2, .int x2)] [.int s1, .ref s0] M Q := by
  unfold DX5_init_30 at H
  obtain ⟨ho1, H⟩ := H
  obtain ⟨hz, H⟩ := H
  obtain ⟨M2, eM2⟩ : ∃ z, z = wI M s0 2 s1 := ⟨_, rfl⟩
  have H := H _ eM2
  refine xt_putZ dX5_init_30 (flX5_24 rfl) ty_7_2 rfl ho1.1 ho1.2 hz ?_
  rw [← eM2]
  refine xt_aload_n (j := 0) dX5_init_33 rfl rfl ?_
  refine xt_aload_n (j := 0) dX5_init_34 rfl rfl ?_
  obtain ⟨ho3, H⟩ := H
  refine xt_getI dX5_init_35 (flX5_24 rfl) ft_7_2 ho3.1 ho3.2 ?_
  refine xt_if_eq (tgt := 45) dX5_init_38 (by decide) (fun hc => ?_) (fun hc => ?_)
  · have H := H.1 hc
    refine xt_iconst (v := 1) dX5_init_45 (by decide) ?_
    refine xt_iload_n (j := 2) dX5_init_46 rfl rfl ?_
    refine xt_ishl dX5_init_47 ?_
    exact xt_sub [0, 1] rfl (VX5_init_48 H)
  · have H := H.2 hc
    refine xt_iconst (v := 1) dX5_init_41 (by decide) ?_
    refine xt_goto (tgt := 48) dX5_init_42 (by decide) ?_
    exact xt_sub [0, 1] rfl (VX5_init_48 H)
def DX5_init_0 (h : Nat) (x0 : Nat) (x1 : Nat) (M : Mem) (Q : Option Value → Mem → Prop) : Prop :=
  ok M x0 7 ∧ ∀ M2 : Mem, M2 = wR M x0 0 (some x1) →
  ok M2 x1 3 ∧ (((mI M2 x1 10) + (mI M2 x1 14)) ≤ 5 → DX5_init_30 h x0 x1 ((mI M2 x1 10) + (mI M2 x1 14)) x0 0 M2 Q) ∧
  (¬ (((mI M2 x1 10) + (mI M2 x1 14)) ≤ 5) → DX5_init_30 h x0 x1 ((mI M2 x1 10) + (mI M2 x1 14)) x0 1 M2 Q)
set_option maxRecDepth 20000 in
set_option maxHeartbeats 2000000 in
theorem VX5_init_0 {h : Nat} {x0 : Nat} {x1 : Nat} {M : Mem} {Q : Option Value → Mem → Prop} (H : DX5_init_0 h x0 x1 M Q) : T (h + 1) mdX5_init 0 [(0, .ref x0), (1, .ref x1)] [] M Q := by
  unfold DX5_init_0 at H
  refine xt_aload_n (j := 0) dX5_init_0 rfl rfl ?_
  refine xt_objInit dX5_init_1 (oiX5_3 rfl) (by decide) (Nat.succ_le_succ (Nat.zero_le _)) ?_
  refine xt_aload_n (j := 0) dX5_init_4 rfl rfl ?_
  refine xt_aload_n (j := 1) dX5_init_5 rfl rfl ?_
  obtain ⟨ho1, H⟩ := H
  obtain ⟨M2, eM2⟩ : ∃ z, z = wR M x0 0 (some x1) := ⟨_, rfl⟩
  have H := H _ eM2
  refine xt_putR dX5_init_6 (flX5_9 rfl) ft_7_0 rfl ho1.1 ho1.2 ?_
  have ho1 : ok M2 x0 7 := by rw [eM2]; exact ho1
  rw [← eM2]
  refine xt_aload_n (j := 1) dX5_init_9 rfl rfl ?_
  obtain ⟨ho3, H⟩ := H
  refine xt_getI dX5_init_10 (flX5_15 rfl) ft_3_10 ho3.1 ho3.2 ?_
  refine xt_aload_n (j := 1) dX5_init_13 rfl rfl ?_
  refine xt_getI dX5_init_14 (flX5_21 rfl) ft_3_14 ho3.1 ho3.2 ?_
  refine xt_iadd dX5_init_17 ?_
  refine xt_istore_n (lv' := [(2, .int ((mI M2 x1 10) + (mI M2 x1 14))), (0, .ref x0), (1, .ref x1)]) dX5_init_18 rfl (by decide) rfl ?_
  refine xt_aload_n (j := 1) dX5_init_19 rfl rfl ?_
  refine xt_iload_n (j := 0) dX5_init_20 rfl rfl ?_
  refine xt_iconst (v := 5) dX5_init_21 (by decide) ?_
  refine xt_icmp_le (tgt := 29) dX5_init_22 (by decide) (fun hc => ?_) (fun hc => ?_)
  · have H := H.1 hc
    refine xt_iconst (v := 0) dX5_init_29 (by decide) ?_
    exact xt_sub [1, 2, 0] rfl (VX5_init_30 H)
  · have H := H.2 hc
    refine xt_iconst (v := 1) dX5_init_25 (by decide) ?_
    refine xt_goto (tgt := 30) dX5_init_26 (by decide) ?_
    exact xt_sub [1, 2, 0] rfl (VX5_init_30 H)
theorem KX5_init {h : Nat} {x0 : Nat} {x1 : Nat} {M : Mem} {Q : Option Value → Mem → Prop} (H : DX5_init_0 h x0 x1 M Q) : E (h + 1) mdX5_init [.ref x0, .ref x1] M Q := E.of (by decide) (Nat.le_of_ble_eq_true rfl) (fun _ _ _ => trivial) (VX5_init_0 H)
def DX5_explore_61 (h : Nat) (M : Mem) (Q : Option Value → Mem → Prop) : Prop :=
  Q none M
set_option maxRecDepth 20000 in
set_option maxHeartbeats 2000000 in
theorem VX5_explore_61 {h : Nat} {M : Mem} {Q : Option Value → Mem → Prop} (H : DX5_explore_61 h  M Q) : T (h + 1) mdX5_explore 61 [] [] M Q := by
  unfold DX5_explore_61 at H
  exact xt_return dX5_explore_61 rfl H
def DX5_explore_50 (h : Nat) (x0 : Nat) (M : Mem) (Q : Option Value → Mem → Prop) : Prop :=
  ok M x0 7 ∧ (¬ (mI M x0 2) = 0 → DX5_explore_61 h  M Q) ∧
  ((mI M x0 2) = 0 → E h mdX5_groupAlike [.ref x0] M (fun r M2 => mE M M2 → r = none ∧ DX5_explore_61 h  M2 Q))
set_option maxRecDepth 20000 in
set_option maxHeartbeats 2000000 in
theorem VX5_explore_50 {h : Nat} {x0 : Nat} {M : Mem} {Q : Option Value → Mem → Prop} (H : DX5_explore_50 h x0 M Q) : T (h + 1) mdX5_explore 50 [(0, .ref x0)] [] M Q := by
  unfold DX5_explore_50 at H
  refine xt_aload_n (j := 0) dX5_explore_50 rfl rfl ?_
  obtain ⟨ho1, H⟩ := H
  refine xt_getI dX5_explore_51 (flX5_24 rfl) ft_7_2 ho1.1 ho1.2 ?_
  refine xt_if_ne (tgt := 61) dX5_explore_54 (by decide) (fun hc => ?_) (fun hc => ?_)
  · have H := H.1 hc
    exact xt_sub [] rfl (VX5_explore_61 H)
  · have H := H.2 hc
    refine xt_aload_n (j := 0) dX5_explore_57 rfl rfl ?_
    refine xt_callV (h2 := h) (as := []) (st := []) dX5_explore_58 (mlX5_75 rfl) rfl ho1.1 ⟨by rw [ho1.2]; rfl, by rw [ho1.2]; decide⟩ (by first | decide | (simp [Value.category]; done)) (Nat.le_refl _) H (fun r M2 HH hE => ?_)
    obtain ⟨hr, H⟩ := HH hE
    subst hr
    have ho1 := ok_E ho1 hE
    show T _ _ _ _ [] _ _
    exact xt_sub [] rfl (VX5_explore_61 H)
def DX5_explore_18 (h : Nat) (x0 : Nat) (x1 : Int32) (M : Mem) (Q : Option Value → Mem → Prop) : Prop :=
  (48 ≤ x1 → DX5_explore_50 h x0 M Q) ∧
  (¬ (48 ≤ x1) → ok M x0 7 ∧ ((mI M x0 3) ≤ x1 → DX5_explore_50 h x0 M Q) ∧
  (¬ ((mI M x0 3) ≤ x1) → (¬ (mI M x0 2) = 0 → DX5_explore_50 h x0 M Q) ∧
  ((mI M x0 2) = 0 → E h mdX5_workState [.ref x0, .int x1] M (fun r M2 => mE M M2 → r = none ∧ T (h + 1) mdX5_explore 18 [(0, .ref x0), (1, .int (x1 + 1))] [] M2 Q))))
set_option maxRecDepth 20000 in
set_option maxHeartbeats 2000000 in
theorem VX5_explore_18 {h : Nat} {x0 : Nat} {x1 : Int32} {M : Mem} {Q : Option Value → Mem → Prop} (H : DX5_explore_18 h x0 x1 M Q) : T (h + 1) mdX5_explore 18 [(0, .ref x0), (1, .int x1)] [] M Q := by
  unfold DX5_explore_18 at H
  refine xt_iload_n (j := 1) dX5_explore_18 rfl rfl ?_
  refine xt_bipush (v := 48) dX5_explore_19 (by decide) ?_
  refine xt_icmp_ge (tgt := 50) dX5_explore_21 (by decide) (fun hc => ?_) (fun hc => ?_)
  · have H := H.1 hc
    exact xt_sub [0] rfl (VX5_explore_50 H)
  · have H := H.2 hc
    refine xt_iload_n (j := 1) dX5_explore_24 rfl rfl ?_
    refine xt_aload_n (j := 0) dX5_explore_25 rfl rfl ?_
    obtain ⟨ho1, H⟩ := H
    refine xt_getI dX5_explore_26 (flX5_68 rfl) ft_7_3 ho1.1 ho1.2 ?_
    refine xt_icmp_ge (tgt := 50) dX5_explore_29 (by decide) (fun hc => ?_) (fun hc => ?_)
    · have H := H.1 hc
      exact xt_sub [0] rfl (VX5_explore_50 H)
    · have H := H.2 hc
      refine xt_aload_n (j := 0) dX5_explore_32 rfl rfl ?_
      refine xt_getI dX5_explore_33 (flX5_24 rfl) ft_7_2 ho1.1 ho1.2 ?_
      refine xt_if_ne (tgt := 50) dX5_explore_36 (by decide) (fun hc => ?_) (fun hc => ?_)
      · have H := H.1 hc
        exact xt_sub [0] rfl (VX5_explore_50 H)
      · have H := H.2 hc
        refine xt_aload_n (j := 0) dX5_explore_39 rfl rfl ?_
        refine xt_iload_n (j := 1) dX5_explore_40 rfl rfl ?_
        refine xt_callV (h2 := h) (as := [.int x1]) (st := []) dX5_explore_41 (mlX5_71 rfl) rfl ho1.1 ⟨by rw [ho1.2]; rfl, by rw [ho1.2]; decide⟩ (by first | decide | (simp [Value.category]; done)) (Nat.le_refl _) H (fun r M2 HH hE => ?_)
        obtain ⟨hr, H⟩ := HH hE
        subst hr
        have ho1 := ok_E ho1 hE
        show T _ _ _ _ [] _ _
        refine xt_iinc (j := 1) (v := x1 + 1) (lv' := [(1, .int (x1 + 1)), (0, .ref x0)]) dX5_explore_44 rfl (by rfl) (by decide) rfl ?_
        refine xt_goto (tgt := 18) dX5_explore_47 (by decide) ?_
        exact xt_sub (lv' := [(0, .ref x0), (1, .int (x1 + 1))]) [1, 0] rfl H
def DX5_explore_13 (h : Nat) (x0 : Nat) (s0 : Nat) (s1 : Int32) (M : Mem) (Q : Option Value → Mem → Prop) : Prop :=
  ok M s0 7 ∧ ∀ M2 : Mem, M2 = wI M s0 3 s1 →
  T (h + 1) mdX5_explore 18 [(0, .ref x0), (1, .int 0)] [] M2 Q
set_option maxRecDepth 20000 in
set_option maxHeartbeats 2000000 in
theorem VX5_explore_13 {h : Nat} {x0 : Nat} {s0 : Nat} {s1 : Int32} {M : Mem} {Q : Option Value → Mem → Prop} (H : DX5_explore_13 h x0 s0 s1 M Q) : T (h + 1) mdX5_explore 13 [(0, .ref x0)] [.int s1, .ref s0] M Q := by
  unfold DX5_explore_13 at H
  obtain ⟨ho1, H⟩ := H
  obtain ⟨M2, eM2⟩ : ∃ z, z = wI M s0 3 s1 := ⟨_, rfl⟩
  have H := H _ eM2
  refine xt_putI dX5_explore_13 (flX5_68 rfl) ty_7_3 rfl ho1.1 ho1.2 ?_
  rw [← eM2]
  refine xt_iconst (v := 0) dX5_explore_16 (by decide) ?_
  refine xt_istore_n (lv' := [(1, .int 0), (0, .ref x0)]) dX5_explore_17 rfl (by decide) rfl ?_
  exact xt_sub (lv' := [(0, .ref x0), (1, .int 0)]) [1, 0] rfl H
def DX5_explore_0 (h : Nat) (x0 : Nat) (M : Mem) (Q : Option Value → Mem → Prop) : Prop :=
  ok M x0 7 ∧ ((mI M x0 2) = 0 → DX5_explore_13 h x0 x0 1 M Q) ∧
  (¬ ((mI M x0 2) = 0) → DX5_explore_13 h x0 x0 0 M Q)
set_option maxRecDepth 20000 in
set_option maxHeartbeats 2000000 in
theorem VX5_explore_0 {h : Nat} {x0 : Nat} {M : Mem} {Q : Option Value → Mem → Prop} (H : DX5_explore_0 h x0 M Q) : T (h + 1) mdX5_explore 0 [(0, .ref x0)] [] M Q := by
  unfold DX5_explore_0 at H
  refine xt_aload_n (j := 0) dX5_explore_0 rfl rfl ?_
  refine xt_aload_n (j := 0) dX5_explore_1 rfl rfl ?_
  obtain ⟨ho1, H⟩ := H
  refine xt_getI dX5_explore_2 (flX5_24 rfl) ft_7_2 ho1.1 ho1.2 ?_
  refine xt_if_eq (tgt := 12) dX5_explore_5 (by decide) (fun hc => ?_) (fun hc => ?_)
  · have H := H.1 hc
    refine xt_iconst (v := 1) dX5_explore_12 (by decide) ?_
    exact xt_sub [0] rfl (VX5_explore_13 H)
  · have H := H.2 hc
    refine xt_iconst (v := 0) dX5_explore_8 (by decide) ?_
    refine xt_goto (tgt := 13) dX5_explore_9 (by decide) ?_
    exact xt_sub [0] rfl (VX5_explore_13 H)
theorem KX5_explore {h : Nat} {x0 : Nat} {M : Mem} {Q : Option Value → Mem → Prop} (H : DX5_explore_0 h x0 M Q) : E (h + 1) mdX5_explore [.ref x0] M Q := E.of (by decide) (Nat.le_of_ble_eq_true rfl) (fun _ _ _ => trivial) (VX5_explore_0 H)
def DX5_reach_47 (h : Nat) (x0 : Nat) (x1 : Int32) (x2 : Int32) (x3 : Int32) (x5 : Int32) (x6 : Int32) (M : Mem) (Q : Option Value → Mem → Prop) : Prop :=
  T (h + 1) mdX5_reach 12 [(0, .ref x0), (1, .int x1), (2, .int x2), (3, .int x3), (5, .int x5), (6, .int (x6 + 1))] [] M Q
set_option maxRecDepth 20000 in
set_option maxHeartbeats 2000000 in
theorem VX5_reach_47 {h : Nat} {x0 : Nat} {x1 : Int32} {x2 : Int32} {x3 : Int32} {x5 : Int32} {x6 : Int32} {M : Mem} {Q : Option Value → Mem → Prop} (H : DX5_reach_47 h x0 x1 x2 x3 x5 x6 M Q) : T (h + 1) mdX5_reach 47 [(0, .ref x0), (1, .int x1), (2, .int x2), (3, .int x3), (5, .int x5), (6, .int x6)] [] M Q := by
  unfold DX5_reach_47 at H
  refine xt_iinc (j := 5) (v := x6 + 1) (lv' := [(6, .int (x6 + 1)), (0, .ref x0), (1, .int x1), (2, .int x2), (3, .int x3), (5, .int x5)]) dX5_reach_47 rfl (by rfl) (by decide) rfl ?_
  refine xt_goto (tgt := 12) dX5_reach_50 (by decide) ?_
  exact xt_sub (lv' := [(0, .ref x0), (1, .int x1), (2, .int x2), (3, .int x3), (5, .int x5), (6, .int (x6 + 1))]) [1, 2, 3, 4, 5, 0] rfl H
def DX5_reach_12 (h : Nat) (x0 : Nat) (x1 : Int32) (x2 : Int32) (x3 : Int32) (x5 : Int32) (x6 : Int32) (M : Mem) (Q : Option Value → Mem → Prop) : Prop :=
  ok M x0 7 ∧ ((mI M x0 3) ≤ x6 → ((mI M x0 3) < 48 → ∃ b2 : Nat, mR M x0 5 = some b2 ∧ ok M b2 21 ∧ vp_in (mI M x0 3) (mL M b2) ∧ ∀ M4 : Mem, M4 = wAI M b2 (mI M x0 3 : Int32).toNatClampNeg x3 →
  ∃ b5 : Nat, mR M4 x0 6 = some b5 ∧ ok M4 b5 21 ∧ vp_in (mI M4 x0 3) (mL M4 b5) ∧ ∀ M7 : Mem, M7 = wAI M4 b5 (mI M4 x0 3 : Int32).toNatClampNeg x5 →
  ∃ b8 : Nat, mR M7 x0 7 = some b8 ∧ ok M7 b8 21 ∧ vp_in (mI M7 x0 3) (mL M7 b8) ∧ ∀ M10 : Mem, M10 = wAI M7 b8 (mI M7 x0 3 : Int32).toNatClampNeg x1 →
  ∃ b11 : Nat, mR M10 x0 8 = some b11 ∧ ok M10 b11 21 ∧ vp_in (mI M10 x0 3) (mL M10 b11) ∧ ∀ M13 : Mem, M13 = wAI M10 b11 (mI M10 x0 3 : Int32).toNatClampNeg x2 →
  ∀ M14 : Mem, M14 = wI M13 x0 3 ((mI M13 x0 3) + 1) →
  Q (some (.int ((mI M14 x0 3) - 1))) M14) ∧
  (¬ ((mI M x0 3) < 48) → ((1 : Int32) = 0 ∨ (1 : Int32) = 1) ∧ ∀ M15 : Mem, M15 = wI M x0 2 1 →
  Q (some (.int (-1))) M15)) ∧
  (¬ ((mI M x0 3) ≤ x6) → ∃ b16 : Nat, mR M x0 5 = some b16 ∧ ok M b16 21 ∧ vp_in x6 (mL M b16) ∧ (¬ (mAI M b16 (x6 : Int32).toNatClampNeg) = x3 → DX5_reach_47 h x0 x1 x2 x3 x5 x6 M Q) ∧
  ((mAI M b16 (x6 : Int32).toNatClampNeg) = x3 → ∃ b18 : Nat, mR M x0 6 = some b18 ∧ ok M b18 21 ∧ vp_in x6 (mL M b18) ∧ (¬ (mAI M b18 (x6 : Int32).toNatClampNeg) = x5 → DX5_reach_47 h x0 x1 x2 x3 x5 x6 M Q) ∧
  ((mAI M b18 (x6 : Int32).toNatClampNeg) = x5 → Q (some (.int x6)) M)))
set_option maxRecDepth 20000 in
set_option maxHeartbeats 2000000 in
theorem VX5_reach_12 {h : Nat} {x0 : Nat} {x1 : Int32} {x2 : Int32} {x3 : Int32} {x5 : Int32} {x6 : Int32} {M : Mem} {Q : Option Value → Mem → Prop} (H : DX5_reach_12 h x0 x1 x2 x3 x5 x6 M Q) : T (h + 1) mdX5_reach 12 [(0, .ref x0), (1, .int x1), (2, .int x2), (3, .int x3), (5, .int x5), (6, .int x6)] [] M Q := by
  unfold DX5_reach_12 at H
  refine xt_iload (j := 5) dX5_reach_12 rfl ?_
  refine xt_aload_n (j := 0) dX5_reach_14 rfl rfl ?_
  obtain ⟨ho1, H⟩ := H
  refine xt_getI dX5_reach_15 (flX5_68 rfl) ft_7_3 ho1.1 ho1.2 ?_
  refine xt_icmp_ge (tgt := 53) dX5_reach_18 (by decide) (fun hc => ?_) (fun hc => ?_)
  · have H := H.1 hc
    refine xt_aload_n (j := 0) dX5_reach_53 rfl rfl ?_
    refine xt_getI dX5_reach_54 (flX5_68 rfl) ft_7_3 ho1.1 ho1.2 ?_
    refine xt_bipush (v := 48) dX5_reach_57 (by decide) ?_
    refine xt_icmp_lt (tgt := 69) dX5_reach_59 (by decide) (fun hc => ?_) (fun hc => ?_)
    · have H := H.1 hc
      refine xt_aload_n (j := 0) dX5_reach_69 rfl rfl ?_
      obtain ⟨b2, hb, H⟩ := H
      refine xt_getR dX5_reach_70 (flX5_43 rfl) ft_7_5 ho1.1 ho1.2 hb ?_
      refine xt_aload_n (j := 0) dX5_reach_73 rfl rfl ?_
      refine xt_getI dX5_reach_74 (flX5_68 rfl) ft_7_3 ho1.1 ho1.2 ?_
      refine xt_iload_n (j := 3) dX5_reach_77 rfl rfl ?_
      obtain ⟨ho3, H⟩ := H
      obtain ⟨hi, H⟩ := H
      obtain ⟨M4, eM4⟩ : ∃ z, z = wAI M b2 (mI M x0 3 : Int32).toNatClampNeg x3 := ⟨_, rfl⟩
      have H := H _ eM4
      refine xt_iast dX5_reach_78 ho3.1 ho3.2 hi ?_
      have ho1 : ok M4 x0 7 := by rw [eM4]; exact ho1
      rw [← eM4]
      refine xt_aload_n (j := 0) dX5_reach_79 rfl rfl ?_
      obtain ⟨b5, hb, H⟩ := H
      refine xt_getR dX5_reach_80 (flX5_47 rfl) ft_7_6 ho1.1 ho1.2 hb ?_
      refine xt_aload_n (j := 0) dX5_reach_83 rfl rfl ?_
      refine xt_getI dX5_reach_84 (flX5_68 rfl) ft_7_3 ho1.1 ho1.2 ?_
      refine xt_iload (j := 4) dX5_reach_87 rfl ?_
      obtain ⟨ho6, H⟩ := H
      obtain ⟨hi, H⟩ := H
      obtain ⟨M7, eM7⟩ : ∃ z, z = wAI M4 b5 (mI M4 x0 3 : Int32).toNatClampNeg x5 := ⟨_, rfl⟩
      have H := H _ eM7
      refine xt_iast dX5_reach_89 ho6.1 ho6.2 hi ?_
      have ho1 : ok M7 x0 7 := by rw [eM7]; exact ho1
      rw [← eM7]
      refine xt_aload_n (j := 0) dX5_reach_90 rfl rfl ?_
      obtain ⟨b8, hb, H⟩ := H
      refine xt_getR dX5_reach_91 (flX5_50 rfl) ft_7_7 ho1.1 ho1.2 hb ?_
      refine xt_aload_n (j := 0) dX5_reach_94 rfl rfl ?_
      refine xt_getI dX5_reach_95 (flX5_68 rfl) ft_7_3 ho1.1 ho1.2 ?_
      refine xt_iload_n (j := 1) dX5_reach_98 rfl rfl ?_
      obtain ⟨ho9, H⟩ := H
      obtain ⟨hi, H⟩ := H
      obtain ⟨M10, eM10⟩ : ∃ z, z = wAI M7 b8 (mI M7 x0 3 : Int32).toNatClampNeg x1 := ⟨_, rfl⟩
      have H := H _ eM10
      refine xt_iast dX5_reach_99 ho9.1 ho9.2 hi ?_
      have ho1 : ok M10 x0 7 := by rw [eM10]; exact ho1
      rw [← eM10]
      refine xt_aload_n (j := 0) dX5_reach_100 rfl rfl ?_
      obtain ⟨b11, hb, H⟩ := H
      refine xt_getR dX5_reach_101 (flX5_53 rfl) ft_7_8 ho1.1 ho1.2 hb ?_
      refine xt_aload_n (j := 0) dX5_reach_104 rfl rfl ?_
      refine xt_getI dX5_reach_105 (flX5_68 rfl) ft_7_3 ho1.1 ho1.2 ?_
      refine xt_iload_n (j := 2) dX5_reach_108 rfl rfl ?_
      obtain ⟨ho12, H⟩ := H
      obtain ⟨hi, H⟩ := H
      obtain ⟨M13, eM13⟩ : ∃ z, z = wAI M10 b11 (mI M10 x0 3 : Int32).toNatClampNeg x2 := ⟨_, rfl⟩
      have H := H _ eM13
      refine xt_iast dX5_reach_109 ho12.1 ho12.2 hi ?_
      have ho1 : ok M13 x0 7 := by rw [eM13]; exact ho1
      rw [← eM13]
      refine xt_aload_n (j := 0) dX5_reach_110 rfl rfl ?_
      refine xt_dup dX5_reach_111 rfl ?_
      refine xt_getI dX5_reach_112 (flX5_68 rfl) ft_7_3 ho1.1 ho1.2 ?_
      refine xt_iconst (v := 1) dX5_reach_115 (by decide) ?_
      refine xt_iadd dX5_reach_116 ?_
      obtain ⟨M14, eM14⟩ : ∃ z, z = wI M13 x0 3 ((mI M13 x0 3) + 1) := ⟨_, rfl⟩
      have H := H _ eM14
      refine xt_putI dX5_reach_117 (flX5_68 rfl) ty_7_3 rfl ho1.1 ho1.2 ?_
      have ho1 : ok M14 x0 7 := by rw [eM14]; exact ho1
      rw [← eM14]
      refine xt_aload_n (j := 0) dX5_reach_120 rfl rfl ?_
      refine xt_getI dX5_reach_121 (flX5_68 rfl) ft_7_3 ho1.1 ho1.2 ?_
      refine xt_iconst (v := 1) dX5_reach_124 (by decide) ?_
      refine xt_isub dX5_reach_125 ?_
      exact xt_ireturn dX5_reach_126 rfl H
    · have H := H.2 hc
      refine xt_aload_n (j := 0) dX5_reach_62 rfl rfl ?_
      refine xt_iconst (v := 1) dX5_reach_63 (by decide) ?_
      obtain ⟨hz, H⟩ := H
      obtain ⟨M15, eM15⟩ : ∃ z, z = wI M x0 2 1 := ⟨_, rfl⟩
      have H := H _ eM15
      refine xt_putZ dX5_reach_64 (flX5_24 rfl) ty_7_2 rfl ho1.1 ho1.2 hz ?_
      have ho1 : ok M15 x0 7 := by rw [eM15]; exact ho1
      rw [← eM15]
      refine xt_iconst (v := -1) dX5_reach_67 (by decide) ?_
      exact xt_ireturn dX5_reach_68 rfl H
  · have H := H.2 hc
    refine xt_aload_n (j := 0) dX5_reach_21 rfl rfl ?_
    obtain ⟨b16, hb, H⟩ := H
    refine xt_getR dX5_reach_22 (flX5_43 rfl) ft_7_5 ho1.1 ho1.2 hb ?_
    refine xt_iload (j := 5) dX5_reach_25 rfl ?_
    obtain ⟨ho17, H⟩ := H
    obtain ⟨hi, H⟩ := H
    refine xt_iald dX5_reach_27 ho17.1 ho17.2 hi ?_
    refine xt_iload_n (j := 3) dX5_reach_28 rfl rfl ?_
    refine xt_icmp_ne (tgt := 47) dX5_reach_29 (by decide) (fun hc => ?_) (fun hc => ?_)
    · have H := H.1 hc
      exact xt_sub [0, 1, 2, 3, 4, 5] rfl (VX5_reach_47 H)
    · have H := H.2 hc
      refine xt_aload_n (j := 0) dX5_reach_32 rfl rfl ?_
      obtain ⟨b18, hb, H⟩ := H
      refine xt_getR dX5_reach_33 (flX5_47 rfl) ft_7_6 ho1.1 ho1.2 hb ?_
      refine xt_iload (j := 5) dX5_reach_36 rfl ?_
      obtain ⟨ho19, H⟩ := H
      obtain ⟨hi, H⟩ := H
      refine xt_iald dX5_reach_38 ho19.1 ho19.2 hi ?_
      refine xt_iload (j := 4) dX5_reach_39 rfl ?_
      refine xt_icmp_ne (tgt := 47) dX5_reach_41 (by decide) (fun hc => ?_) (fun hc => ?_)
      · have H := H.1 hc
        exact xt_sub [0, 1, 2, 3, 4, 5] rfl (VX5_reach_47 H)
      · have H := H.2 hc
        refine xt_iload (j := 5) dX5_reach_44 rfl ?_
        exact xt_ireturn dX5_reach_46 rfl H
def DX5_reach_0 (h : Nat) (x0 : Nat) (x1 : Int32) (x2 : Int32) (x3 : Int32) (x4 : Int32) (M : Mem) (Q : Option Value → Mem → Prop) : Prop :=
  ok M x0 7 ∧ T (h + 1) mdX5_reach 12 [(0, .ref x0), (1, .int x1), (2, .int x2), (3, .int x3), (5, .int (x4 &&& (mI M x0 4))), (6, .int 1)] [] M Q
set_option maxRecDepth 20000 in
set_option maxHeartbeats 2000000 in
theorem VX5_reach_0 {h : Nat} {x0 : Nat} {x1 : Int32} {x2 : Int32} {x3 : Int32} {x4 : Int32} {M : Mem} {Q : Option Value → Mem → Prop} (H : DX5_reach_0 h x0 x1 x2 x3 x4 M Q) : T (h + 1) mdX5_reach 0 [(0, .ref x0), (1, .int x1), (2, .int x2), (3, .int x3), (4, .int x4)] [] M Q := by
  unfold DX5_reach_0 at H
  refine xt_iload (j := 4) dX5_reach_0 rfl ?_
  refine xt_aload_n (j := 0) dX5_reach_2 rfl rfl ?_
  obtain ⟨ho1, H⟩ := H
  refine xt_getI dX5_reach_3 (flX5_41 rfl) ft_7_4 ho1.1 ho1.2 ?_
  refine xt_iand dX5_reach_6 ?_
  refine xt_istore (lv' := [(5, .int (x4 &&& (mI M x0 4))), (0, .ref x0), (1, .int x1), (2, .int x2), (3, .int x3), (4, .int x4)]) dX5_reach_7 (by decide) rfl ?_
  refine xt_iconst (v := 1) dX5_reach_9 (by decide) ?_
  refine xt_istore (lv' := [(6, .int 1), (5, .int (x4 &&& (mI M x0 4))), (0, .ref x0), (1, .int x1), (2, .int x2), (3, .int x3), (4, .int x4)]) dX5_reach_10 (by decide) rfl ?_
  exact xt_sub (lv' := [(0, .ref x0), (1, .int x1), (2, .int x2), (3, .int x3), (5, .int (x4 &&& (mI M x0 4))), (6, .int 1)]) [2, 3, 4, 5, 1, 0] rfl H
theorem KX5_reach {h : Nat} {x0 : Nat} {x1 : Int32} {x2 : Int32} {x3 : Int32} {x4 : Int32} {M : Mem} {Q : Option Value → Mem → Prop} (H : DX5_reach_0 h x0 x1 x2 x3 x4 M Q) : E (h + 1) mdX5_reach [.ref x0, .int x1, .int x2, .int x3, .int x4] M Q := E.of (by decide) (Nat.le_of_ble_eq_true rfl) (fun _ _ _ => trivial) (VX5_reach_0 H)
def DX5_leastAlike_43 (h : Nat) (x0 : Nat) (x1 : Int32) (x2 : Int32) (M : Mem) (Q : Option Value → Mem → Prop) : Prop :=
  T (h + 1) mdX5_leastAlike 2 [(0, .ref x0), (1, .int x1), (2, .int (x2 + 1))] [] M Q
set_option maxRecDepth 20000 in
set_option maxHeartbeats 2000000 in
theorem VX5_leastAlike_43 {h : Nat} {x0 : Nat} {x1 : Int32} {x2 : Int32} {M : Mem} {Q : Option Value → Mem → Prop} (H : DX5_leastAlike_43 h x0 x1 x2 M Q) : T (h + 1) mdX5_leastAlike 43 [(0, .ref x0), (1, .int x1), (2, .int x2)] [] M Q := by
  unfold DX5_leastAlike_43 at H
  refine xt_iinc (j := 2) (v := x2 + 1) (lv' := [(2, .int (x2 + 1)), (0, .ref x0), (1, .int x1)]) dX5_leastAlike_43 rfl (by rfl) (by decide) rfl ?_
  refine xt_goto (tgt := 2) dX5_leastAlike_46 (by decide) ?_
  exact xt_sub (lv' := [(0, .ref x0), (1, .int x1), (2, .int (x2 + 1))]) [1, 2, 0] rfl H
def DX5_leastAlike_2 (h : Nat) (x0 : Nat) (x1 : Int32) (x2 : Int32) (M : Mem) (Q : Option Value → Mem → Prop) : Prop :=
  (x1 ≤ x2 → Q (some (.int x1)) M) ∧
  (¬ (x1 ≤ x2) → ok M x0 7 ∧ ∃ b2 : Nat, mR M x0 12 = some b2 ∧ ok M b2 21 ∧ vp_in x2 (mL M b2) ∧ (¬ (mAI M b2 (x2 : Int32).toNatClampNeg) = x2 → DX5_leastAlike_43 h x0 x1 x2 M Q) ∧
  ((mAI M b2 (x2 : Int32).toNatClampNeg) = x2 → ∃ b4 : Nat, mR M x0 11 = some b4 ∧ ok M b4 21 ∧ vp_in x2 (mL M b4) ∧ ∃ b6 : Nat, mR M x0 11 = some b6 ∧ ok M b6 21 ∧ vp_in x1 (mL M b6) ∧ (¬ (mAI M b4 (x2 : Int32).toNatClampNeg) = (mAI M b6 (x1 : Int32).toNatClampNeg) → DX5_leastAlike_43 h x0 x1 x2 M Q) ∧
  ((mAI M b4 (x2 : Int32).toNatClampNeg) = (mAI M b6 (x1 : Int32).toNatClampNeg) → E h mdX5_moveAlike [.ref x0, .int x2, .int x1] M (fun r M8 => mE M M8 → ∃ r9 : Int32, r = some (.int r9) ∧ (r9 = 0 → DX5_leastAlike_43 h x0 x1 x2 M8 Q) ∧
  (¬ (r9 = 0) → Q (some (.int x2)) M8)))))
set_option maxRecDepth 20000 in
set_option maxHeartbeats 2000000 in
theorem VX5_leastAlike_2 {h : Nat} {x0 : Nat} {x1 : Int32} {x2 : Int32} {M : Mem} {Q : Option Value → Mem → Prop} (H : DX5_leastAlike_2 h x0 x1 x2 M Q) : T (h + 1) mdX5_leastAlike 2 [(0, .ref x0), (1, .int x1), (2, .int x2)] [] M Q := by
  unfold DX5_leastAlike_2 at H
  refine xt_iload_n (j := 2) dX5_leastAlike_2 rfl rfl ?_
  refine xt_iload_n (j := 1) dX5_leastAlike_3 rfl rfl ?_
  refine xt_icmp_ge (tgt := 49) dX5_leastAlike_4 (by decide) (fun hc => ?_) (fun hc => ?_)
  · have H := H.1 hc
    refine xt_iload_n (j := 1) dX5_leastAlike_49 rfl rfl ?_
    exact xt_ireturn dX5_leastAlike_50 rfl H
  · have H := H.2 hc
    refine xt_aload_n (j := 0) dX5_leastAlike_7 rfl rfl ?_
    obtain ⟨ho1, H⟩ := H
    obtain ⟨b2, hb, H⟩ := H
    refine xt_getR dX5_leastAlike_8 (flX5_65 rfl) ft_7_12 ho1.1 ho1.2 hb ?_
    refine xt_iload_n (j := 2) dX5_leastAlike_11 rfl rfl ?_
    obtain ⟨ho3, H⟩ := H
    obtain ⟨hi, H⟩ := H
    refine xt_iald dX5_leastAlike_12 ho3.1 ho3.2 hi ?_
    refine xt_iload_n (j := 2) dX5_leastAlike_13 rfl rfl ?_
    refine xt_icmp_ne (tgt := 43) dX5_leastAlike_14 (by decide) (fun hc => ?_) (fun hc => ?_)
    · have H := H.1 hc
      exact xt_sub [0, 1, 2] rfl (VX5_leastAlike_43 H)
    · have H := H.2 hc
      refine xt_aload_n (j := 0) dX5_leastAlike_17 rfl rfl ?_
      obtain ⟨b4, hb, H⟩ := H
      refine xt_getR dX5_leastAlike_18 (flX5_62 rfl) ft_7_11 ho1.1 ho1.2 hb ?_
      refine xt_iload_n (j := 2) dX5_leastAlike_21 rfl rfl ?_
      obtain ⟨ho5, H⟩ := H
      obtain ⟨hi, H⟩ := H
      refine xt_iald dX5_leastAlike_22 ho5.1 ho5.2 hi ?_
      refine xt_aload_n (j := 0) dX5_leastAlike_23 rfl rfl ?_
      obtain ⟨b6, hb, H⟩ := H
      refine xt_getR dX5_leastAlike_24 (flX5_62 rfl) ft_7_11 ho1.1 ho1.2 hb ?_
      refine xt_iload_n (j := 1) dX5_leastAlike_27 rfl rfl ?_
      obtain ⟨ho7, H⟩ := H
      obtain ⟨hi, H⟩ := H
      refine xt_iald dX5_leastAlike_28 ho7.1 ho7.2 hi ?_
      refine xt_icmp_ne (tgt := 43) dX5_leastAlike_29 (by decide) (fun hc => ?_) (fun hc => ?_)
      · have H := H.1 hc
        exact xt_sub [0, 1, 2] rfl (VX5_leastAlike_43 H)
      · have H := H.2 hc
        refine xt_aload_n (j := 0) dX5_leastAlike_32 rfl rfl ?_
        refine xt_iload_n (j := 2) dX5_leastAlike_33 rfl rfl ?_
        refine xt_iload_n (j := 1) dX5_leastAlike_34 rfl rfl ?_
        refine xt_callV (h2 := h) (as := [.int x2, .int x1]) (st := []) dX5_leastAlike_35 (mlX5_129 rfl) rfl ho1.1 ⟨by rw [ho1.2]; rfl, by rw [ho1.2]; decide⟩ (by first | decide | (simp [Value.category]; done)) (Nat.le_refl _) H (fun r M8 HH hE => ?_)
        obtain ⟨r9, hr, H⟩ := HH hE
        subst hr
        have ho1 := ok_E ho1 hE
        show T _ _ _ _ [.int r9] _ _
        refine xt_if_eq (tgt := 43) dX5_leastAlike_38 (by decide) (fun hc => ?_) (fun hc => ?_)
        · have H := H.1 hc
          exact xt_sub [0, 1, 2] rfl (VX5_leastAlike_43 H)
        · have H := H.2 hc
          refine xt_iload_n (j := 2) dX5_leastAlike_41 rfl rfl ?_
          exact xt_ireturn dX5_leastAlike_42 rfl H
def DX5_leastAlike_0 (h : Nat) (x0 : Nat) (x1 : Int32) (M : Mem) (Q : Option Value → Mem → Prop) : Prop :=
  T (h + 1) mdX5_leastAlike 2 [(0, .ref x0), (1, .int x1), (2, .int 0)] [] M Q
set_option maxRecDepth 20000 in
set_option maxHeartbeats 2000000 in
theorem VX5_leastAlike_0 {h : Nat} {x0 : Nat} {x1 : Int32} {M : Mem} {Q : Option Value → Mem → Prop} (H : DX5_leastAlike_0 h x0 x1 M Q) : T (h + 1) mdX5_leastAlike 0 [(0, .ref x0), (1, .int x1)] [] M Q := by
  unfold DX5_leastAlike_0 at H
  refine xt_iconst (v := 0) dX5_leastAlike_0 (by decide) ?_
  refine xt_istore_n (lv' := [(2, .int 0), (0, .ref x0), (1, .int x1)]) dX5_leastAlike_1 rfl (by decide) rfl ?_
  exact xt_sub (lv' := [(0, .ref x0), (1, .int x1), (2, .int 0)]) [1, 2, 0] rfl H
theorem KX5_leastAlike {h : Nat} {x0 : Nat} {x1 : Int32} {M : Mem} {Q : Option Value → Mem → Prop} (H : DX5_leastAlike_0 h x0 x1 M Q) : E (h + 1) mdX5_leastAlike [.ref x0, .int x1] M Q := E.of (by decide) (Nat.le_of_ble_eq_true rfl) (fun _ _ _ => trivial) (VX5_leastAlike_0 H)
def DX5_moveAlike_2 (h : Nat) (x0 : Nat) (x1 : Int32) (x2 : Int32) (x3 : Int32) (M : Mem) (Q : Option Value → Mem → Prop) : Prop :=
  ok M x0 7 ∧ ((mI M x0 1) ≤ x3 → ((1 : Int32) = 0 ∨ (1 : Int32) = 1) ∧ Q (some (.int 1)) M) ∧
  (¬ ((mI M x0 1) ≤ x3) → ∃ b2 : Nat, mR M x0 10 = some b2 ∧ ok M b2 21 ∧ vp_in ((x1 * (mI M x0 1)) + x3) (mL M b2) ∧ ∃ b4 : Nat, mR M x0 10 = some b4 ∧ ok M b4 21 ∧ vp_in ((x2 * (mI M x0 1)) + x3) (mL M b4) ∧ ∃ b6 : Nat, mR M x0 0 = some b6 ∧ ok M b6 3 ∧ ((((mAI M b2 ((x1 * (mI M x0 1)) + x3 : Int32).toNatClampNeg) ^^^ (mAI M b4 ((x2 * (mI M x0 1)) + x3 : Int32).toNatClampNeg)) &&& (mI M b6 11)) = 0 → ∃ b8 : Nat, mR M x0 9 = some b8 ∧ ok M b8 21 ∧ vp_in ((x1 * (mI M x0 1)) + x3) (mL M b8) ∧ E h mdX5_groupOf [.ref x0, .int (mAI M b8 ((x1 * (mI M x0 1)) + x3 : Int32).toNatClampNeg)] M (fun r M10 => mE M M10 → ∃ r11 : Int32, r = some (.int r11) ∧ ∃ b12 : Nat, mR M10 x0 9 = some b12 ∧ ok M10 b12 21 ∧ vp_in ((x2 * (mI M x0 1)) + x3) (mL M10 b12) ∧ E h mdX5_groupOf [.ref x0, .int (mAI M10 b12 ((x2 * (mI M x0 1)) + x3 : Int32).toNatClampNeg)] M10 (fun r M14 => mE M10 M14 → ∃ r15 : Int32, r = some (.int r15) ∧ (r11 = r15 → T (h + 1) mdX5_moveAlike 2 [(0, .ref x0), (1, .int x1), (2, .int x2), (3, .int (x3 + 1))] [] M14 Q) ∧
  (¬ (r11 = r15) → ((0 : Int32) = 0 ∨ (0 : Int32) = 1) ∧ Q (some (.int 0)) M14)))) ∧
  (¬ ((((mAI M b2 ((x1 * (mI M x0 1)) + x3 : Int32).toNatClampNeg) ^^^ (mAI M b4 ((x2 * (mI M x0 1)) + x3 : Int32).toNatClampNeg)) &&& (mI M b6 11)) = 0) → ((0 : Int32) = 0 ∨ (0 : Int32) = 1) ∧ Q (some (.int 0)) M))
set_option maxRecDepth 20000 in
set_option maxHeartbeats 2000000 in
theorem VX5_moveAlike_2 {h : Nat} {x0 : Nat} {x1 : Int32} {x2 : Int32} {x3 : Int32} {M : Mem} {Q : Option Value → Mem → Prop} (H : DX5_moveAlike_2 h x0 x1 x2 x3 M Q) : T (h + 1) mdX5_moveAlike 2 [(0, .ref x0), (1, .int x1), (2, .int x2), (3, .int x3)] [] M Q := by
  unfold DX5_moveAlike_2 at H
  refine xt_iload_n (j := 3) dX5_moveAlike_2 rfl rfl ?_
  refine xt_aload_n (j := 0) dX5_moveAlike_3 rfl rfl ?_
  obtain ⟨ho1, H⟩ := H
  refine xt_getI dX5_moveAlike_4 (flX5_28 rfl) ft_7_1 ho1.1 ho1.2 ?_
  refine xt_icmp_ge (tgt := 91) dX5_moveAlike_7 (by decide) (fun hc => ?_) (fun hc => ?_)
  · have H := H.1 hc
    refine xt_iconst (v := 1) dX5_moveAlike_91 (by decide) ?_
    exact xt_zreturn dX5_moveAlike_92 rfl H.1 H.2
  · have H := H.2 hc
    refine xt_iload_n (j := 1) dX5_moveAlike_10 rfl rfl ?_
    refine xt_aload_n (j := 0) dX5_moveAlike_11 rfl rfl ?_
    refine xt_getI dX5_moveAlike_12 (flX5_28 rfl) ft_7_1 ho1.1 ho1.2 ?_
    refine xt_imul dX5_moveAlike_15 ?_
    refine xt_iload_n (j := 3) dX5_moveAlike_16 rfl rfl ?_
    refine xt_iadd dX5_moveAlike_17 ?_
    refine xt_istore (lv' := [(4, .int ((x1 * (mI M x0 1)) + x3)), (0, .ref x0), (1, .int x1), (2, .int x2), (3, .int x3)]) dX5_moveAlike_18 (by decide) rfl ?_
    refine xt_iload_n (j := 3) dX5_moveAlike_20 rfl rfl ?_
    refine xt_aload_n (j := 1) dX5_moveAlike_21 rfl rfl ?_
    refine xt_getI dX5_moveAlike_22 (flX5_28 rfl) ft_7_1 ho1.1 ho1.2 ?_
    refine xt_imul dX5_moveAlike_25 ?_
    refine xt_iload_n (j := 4) dX5_moveAlike_26 rfl rfl ?_
    refine xt_iadd dX5_moveAlike_27 ?_
    refine xt_istore (lv' := [(5, .int ((x2 * (mI M x0 1)) + x3)), (4, .int ((x1 * (mI M x0 1)) + x3)), (0, .ref x0), (1, .int x1), (2, .int x2), (3, .int x3)]) dX5_moveAlike_28 (by decide) rfl ?_
    refine xt_aload_n (j := 2) dX5_moveAlike_30 rfl rfl ?_
    obtain ⟨b2, hb, H⟩ := H
    refine xt_getR dX5_moveAlike_31 (flX5_59 rfl) ft_7_10 ho1.1 ho1.2 hb ?_
    refine xt_iload (j := 1) dX5_moveAlike_34 rfl ?_
    obtain ⟨ho3, H⟩ := H
    obtain ⟨hi, H⟩ := H
    refine xt_iald dX5_moveAlike_36 ho3.1 ho3.2 hi ?_
    refine xt_aload_n (j := 2) dX5_moveAlike_37 rfl rfl ?_
    obtain ⟨b4, hb, H⟩ := H
    refine xt_getR dX5_moveAlike_38 (flX5_59 rfl) ft_7_10 ho1.1 ho1.2 hb ?_
    refine xt_iload (j := 0) dX5_moveAlike_41 rfl ?_
    obtain ⟨ho5, H⟩ := H
    obtain ⟨hi, H⟩ := H
    refine xt_iald dX5_moveAlike_43 ho5.1 ho5.2 hi ?_
    refine xt_ixor dX5_moveAlike_44 ?_
    refine xt_aload_n (j := 2) dX5_moveAlike_45 rfl rfl ?_
    obtain ⟨b6, hb, H⟩ := H
    refine xt_getR dX5_moveAlike_46 (flX5_9 rfl) ft_7_0 ho1.1 ho1.2 hb ?_
    obtain ⟨ho7, H⟩ := H
    refine xt_getI dX5_moveAlike_49 (flX5_132 rfl) ft_3_11 ho7.1 ho7.2 ?_
    refine xt_iand dX5_moveAlike_52 ?_
    refine xt_if_eq (tgt := 58) dX5_moveAlike_53 (by decide) (fun hc => ?_) (fun hc => ?_)
    · have H := H.1 hc
      refine xt_aload_n (j := 2) dX5_moveAlike_58 rfl rfl ?_
      refine xt_aload_n (j := 2) dX5_moveAlike_59 rfl rfl ?_
      obtain ⟨b8, hb, H⟩ := H
      refine xt_getR dX5_moveAlike_60 (flX5_56 rfl) ft_7_9 ho1.1 ho1.2 hb ?_
      refine xt_iload (j := 1) dX5_moveAlike_63 rfl ?_
      obtain ⟨ho9, H⟩ := H
      obtain ⟨hi, H⟩ := H
      refine xt_iald dX5_moveAlike_65 ho9.1 ho9.2 hi ?_
      refine xt_callV (h2 := h) (as := [.int (mAI M b8 ((x1 * (mI M x0 1)) + x3 : Int32).toNatClampNeg)]) (st := []) dX5_moveAlike_66 (mlX5_135 rfl) rfl ho1.1 ⟨by rw [ho1.2]; rfl, by rw [ho1.2]; decide⟩ (by first | decide | (simp [Value.category]; done)) (Nat.le_refl _) H (fun r M10 HH hE => ?_)
      obtain ⟨r11, hr, H⟩ := HH hE
      subst hr
      have ho1 := ok_E ho1 hE
      show T _ _ _ _ [.int r11] _ _
      refine xt_aload_n (j := 2) dX5_moveAlike_69 rfl rfl ?_
      refine xt_aload_n (j := 2) dX5_moveAlike_70 rfl rfl ?_
      obtain ⟨b12, hb, H⟩ := H
      refine xt_getR dX5_moveAlike_71 (flX5_56 rfl) ft_7_9 ho1.1 ho1.2 hb ?_
      refine xt_iload (j := 0) dX5_moveAlike_74 rfl ?_
      obtain ⟨ho13, H⟩ := H
      obtain ⟨hi, H⟩ := H
      refine xt_iald dX5_moveAlike_76 ho13.1 ho13.2 hi ?_
      refine xt_callV (h2 := h) (as := [.int (mAI M10 b12 ((x2 * (mI M x0 1)) + x3 : Int32).toNatClampNeg)]) (st := [.int r11]) dX5_moveAlike_77 (mlX5_135 rfl) rfl ho1.1 ⟨by rw [ho1.2]; rfl, by rw [ho1.2]; decide⟩ (by first | decide | (simp [Value.category]; done)) (Nat.le_refl _) H (fun r M14 HH hE => ?_)
      obtain ⟨r15, hr, H⟩ := HH hE
      subst hr
      have ho1 := ok_E ho1 hE
      show T _ _ _ _ [.int r15, .int r11] _ _
      refine xt_icmp_eq (tgt := 85) dX5_moveAlike_80 (by decide) (fun hc => ?_) (fun hc => ?_)
      · have H := H.1 hc
        refine xt_iinc (j := 5) (v := x3 + 1) (lv' := [(3, .int (x3 + 1)), (5, .int ((x2 * (mI M x0 1)) + x3)), (4, .int ((x1 * (mI M x0 1)) + x3)), (0, .ref x0), (1, .int x1), (2, .int x2)]) dX5_moveAlike_85 rfl (by rfl) (by decide) rfl ?_
        refine xt_goto (tgt := 2) dX5_moveAlike_88 (by decide) ?_
        exact xt_sub (lv' := [(0, .ref x0), (1, .int x1), (2, .int x2), (3, .int (x3 + 1))]) [3, 4, 5, 0] rfl H
      · have H := H.2 hc
        refine xt_iconst (v := 0) dX5_moveAlike_83 (by decide) ?_
        exact xt_zreturn dX5_moveAlike_84 rfl H.1 H.2
    · have H := H.2 hc
      refine xt_iconst (v := 0) dX5_moveAlike_56 (by decide) ?_
      exact xt_zreturn dX5_moveAlike_57 rfl H.1 H.2
def DX5_moveAlike_0 (h : Nat) (x0 : Nat) (x1 : Int32) (x2 : Int32) (M : Mem) (Q : Option Value → Mem → Prop) : Prop :=
  T (h + 1) mdX5_moveAlike 2 [(0, .ref x0), (1, .int x1), (2, .int x2), (3, .int 0)] [] M Q
set_option maxRecDepth 20000 in
set_option maxHeartbeats 2000000 in
theorem VX5_moveAlike_0 {h : Nat} {x0 : Nat} {x1 : Int32} {x2 : Int32} {M : Mem} {Q : Option Value → Mem → Prop} (H : DX5_moveAlike_0 h x0 x1 x2 M Q) : T (h + 1) mdX5_moveAlike 0 [(0, .ref x0), (1, .int x1), (2, .int x2)] [] M Q := by
  unfold DX5_moveAlike_0 at H
  refine xt_iconst (v := 0) dX5_moveAlike_0 (by decide) ?_
  refine xt_istore_n (lv' := [(3, .int 0), (0, .ref x0), (1, .int x1), (2, .int x2)]) dX5_moveAlike_1 rfl (by decide) rfl ?_
  exact xt_sub (lv' := [(0, .ref x0), (1, .int x1), (2, .int x2), (3, .int 0)]) [1, 2, 3, 0] rfl H
theorem KX5_moveAlike {h : Nat} {x0 : Nat} {x1 : Int32} {x2 : Int32} {M : Mem} {Q : Option Value → Mem → Prop} (H : DX5_moveAlike_0 h x0 x1 x2 M Q) : E (h + 1) mdX5_moveAlike [.ref x0, .int x1, .int x2] M Q := E.of (by decide) (Nat.le_of_ble_eq_true rfl) (fun _ _ _ => trivial) (VX5_moveAlike_0 H)
def DX5_groupOf_14 (h : Nat) (s0 : Int32) (M : Mem) (Q : Option Value → Mem → Prop) : Prop :=
  Q (some (.int s0)) M
set_option maxRecDepth 20000 in
set_option maxHeartbeats 2000000 in
theorem VX5_groupOf_14 {h : Nat} {s0 : Int32} {M : Mem} {Q : Option Value → Mem → Prop} (H : DX5_groupOf_14 h s0 M Q) : T (h + 1) mdX5_groupOf 14 [] [.int s0] M Q := by
  unfold DX5_groupOf_14 at H
  exact xt_ireturn dX5_groupOf_14 rfl H
def DX5_groupOf_0 (h : Nat) (x0 : Nat) (x1 : Int32) (M : Mem) (Q : Option Value → Mem → Prop) : Prop :=
  (0 ≤ x1 → ok M x0 7 ∧ ∃ b2 : Nat, mR M x0 11 = some b2 ∧ ok M b2 21 ∧ vp_in x1 (mL M b2) ∧ DX5_groupOf_14 h (mAI M b2 (x1 : Int32).toNatClampNeg) M Q) ∧
  (¬ (0 ≤ x1) → DX5_groupOf_14 h x1 M Q)
set_option maxRecDepth 20000 in
set_option maxHeartbeats 2000000 in
theorem VX5_groupOf_0 {h : Nat} {x0 : Nat} {x1 : Int32} {M : Mem} {Q : Option Value → Mem → Prop} (H : DX5_groupOf_0 h x0 x1 M Q) : T (h + 1) mdX5_groupOf 0 [(0, .ref x0), (1, .int x1)] [] M Q := by
  unfold DX5_groupOf_0 at H
  refine xt_iload_n (j := 1) dX5_groupOf_0 rfl rfl ?_
  refine xt_if_ge (tgt := 8) dX5_groupOf_1 (by decide) (fun hc => ?_) (fun hc => ?_)
  · have H := H.1 hc
    refine xt_aload_n (j := 0) dX5_groupOf_8 rfl rfl ?_
    obtain ⟨ho1, H⟩ := H
    obtain ⟨b2, hb, H⟩ := H
    refine xt_getR dX5_groupOf_9 (flX5_62 rfl) ft_7_11 ho1.1 ho1.2 hb ?_
    refine xt_iload_n (j := 1) dX5_groupOf_12 rfl rfl ?_
    obtain ⟨ho3, H⟩ := H
    obtain ⟨hi, H⟩ := H
    refine xt_iald dX5_groupOf_13 ho3.1 ho3.2 hi ?_
    exact xt_sub [] rfl (VX5_groupOf_14 H)
  · have H := H.2 hc
    refine xt_iload_n (j := 1) dX5_groupOf_4 rfl rfl ?_
    refine xt_goto (tgt := 14) dX5_groupOf_5 (by decide) ?_
    exact xt_sub [] rfl (VX5_groupOf_14 H)
theorem KX5_groupOf {h : Nat} {x0 : Nat} {x1 : Int32} {M : Mem} {Q : Option Value → Mem → Prop} (H : DX5_groupOf_0 h x0 x1 M Q) : E (h + 1) mdX5_groupOf [.ref x0, .int x1] M Q := E.of (by decide) (Nat.le_of_ble_eq_true rfl) (fun _ _ _ => trivial) (VX5_groupOf_0 H)
def DX5_hasState_17 (h : Nat) (s0 : Int32) (M : Mem) (Q : Option Value → Mem → Prop) : Prop :=
  (s0 = 0 ∨ s0 = 1) ∧ Q (some (.int s0)) M
set_option maxRecDepth 20000 in
set_option maxHeartbeats 2000000 in
theorem VX5_hasState_17 {h : Nat} {s0 : Int32} {M : Mem} {Q : Option Value → Mem → Prop} (H : DX5_hasState_17 h s0 M Q) : T (h + 1) mdX5_hasState 17 [] [.int s0] M Q := by
  unfold DX5_hasState_17 at H
  exact xt_zreturn dX5_hasState_17 rfl H.1 H.2
def DX5_hasState_16 (h : Nat) (M : Mem) (Q : Option Value → Mem → Prop) : Prop :=
  DX5_hasState_17 h 0 M Q
set_option maxRecDepth 20000 in
set_option maxHeartbeats 2000000 in
theorem VX5_hasState_16 {h : Nat} {M : Mem} {Q : Option Value → Mem → Prop} (H : DX5_hasState_16 h  M Q) : T (h + 1) mdX5_hasState 16 [] [] M Q := by
  unfold DX5_hasState_16 at H
  refine xt_iconst (v := 0) dX5_hasState_16 (by decide) ?_
  exact xt_sub [] rfl (VX5_hasState_17 H)
def DX5_hasState_0 (h : Nat) (x0 : Nat) (x1 : Int32) (M : Mem) (Q : Option Value → Mem → Prop) : Prop :=
  (x1 < 0 → DX5_hasState_16 h  M Q) ∧
  (¬ (x1 < 0) → ok M x0 7 ∧ ((mI M x0 3) ≤ x1 → DX5_hasState_16 h  M Q) ∧
  (¬ ((mI M x0 3) ≤ x1) → DX5_hasState_17 h 1 M Q))
set_option maxRecDepth 20000 in
set_option maxHeartbeats 2000000 in
theorem VX5_hasState_0 {h : Nat} {x0 : Nat} {x1 : Int32} {M : Mem} {Q : Option Value → Mem → Prop} (H : DX5_hasState_0 h x0 x1 M Q) : T (h + 1) mdX5_hasState 0 [(0, .ref x0), (1, .int x1)] [] M Q := by
  unfold DX5_hasState_0 at H
  refine xt_iload_n (j := 1) dX5_hasState_0 rfl rfl ?_
  refine xt_if_lt (tgt := 16) dX5_hasState_1 (by decide) (fun hc => ?_) (fun hc => ?_)
  · have H := H.1 hc
    exact xt_sub [] rfl (VX5_hasState_16 H)
  · have H := H.2 hc
    refine xt_iload_n (j := 1) dX5_hasState_4 rfl rfl ?_
    refine xt_aload_n (j := 0) dX5_hasState_5 rfl rfl ?_
    obtain ⟨ho1, H⟩ := H
    refine xt_getI dX5_hasState_6 (flX5_68 rfl) ft_7_3 ho1.1 ho1.2 ?_
    refine xt_icmp_ge (tgt := 16) dX5_hasState_9 (by decide) (fun hc => ?_) (fun hc => ?_)
    · have H := H.1 hc
      exact xt_sub [] rfl (VX5_hasState_16 H)
    · have H := H.2 hc
      refine xt_iconst (v := 1) dX5_hasState_12 (by decide) ?_
      refine xt_goto (tgt := 17) dX5_hasState_13 (by decide) ?_
      exact xt_sub [] rfl (VX5_hasState_17 H)
theorem KX5_hasState {h : Nat} {x0 : Nat} {x1 : Int32} {M : Mem} {Q : Option Value → Mem → Prop} (H : DX5_hasState_0 h x0 x1 M Q) : E (h + 1) mdX5_hasState [.ref x0, .int x1] M Q := E.of (by decide) (Nat.le_of_ble_eq_true rfl) (fun _ _ _ => trivial) (VX5_hasState_0 H)
def DX5_stepsTo_27 (h : Nat) (x2 : Int32) (M : Mem) (Q : Option Value → Mem → Prop) : Prop :=
  Q (some (.int x2)) M
set_option maxRecDepth 20000 in
set_option maxHeartbeats 2000000 in
theorem VX5_stepsTo_27 {h : Nat} {x2 : Int32} {M : Mem} {Q : Option Value → Mem → Prop} (H : DX5_stepsTo_27 h x2 M Q) : T (h + 1) mdX5_stepsTo 27 [(2, .int x2)] [] M Q := by
  unfold DX5_stepsTo_27 at H
  refine xt_iload_n (j := 0) dX5_stepsTo_27 rfl rfl ?_
  exact xt_ireturn dX5_stepsTo_28 rfl H
def DX5_stepsTo_4 (h : Nat) (x0 : Nat) (x2 : Int32) (x3 : Int32) (M : Mem) (Q : Option Value → Mem → Prop) : Prop :=
  (x3 = 0 → DX5_stepsTo_27 h x2 M Q) ∧
  (¬ (x3 = 0) → (48 ≤ x2 → DX5_stepsTo_27 h x2 M Q) ∧
  (¬ (48 ≤ x2) → ok M x0 7 ∧ ∃ b2 : Nat, mR M x0 7 = some b2 ∧ ok M b2 21 ∧ vp_in x3 (mL M b2) ∧ T (h + 1) mdX5_stepsTo 4 [(0, .ref x0), (2, .int (x2 + 1)), (3, .int (mAI M b2 (x3 : Int32).toNatClampNeg))] [] M Q))
set_option maxRecDepth 20000 in
set_option maxHeartbeats 2000000 in
theorem VX5_stepsTo_4 {h : Nat} {x0 : Nat} {x2 : Int32} {x3 : Int32} {M : Mem} {Q : Option Value → Mem → Prop} (H : DX5_stepsTo_4 h x0 x2 x3 M Q) : T (h + 1) mdX5_stepsTo 4 [(0, .ref x0), (2, .int x2), (3, .int x3)] [] M Q := by
  unfold DX5_stepsTo_4 at H
  refine xt_iload_n (j := 2) dX5_stepsTo_4 rfl rfl ?_
  refine xt_if_eq (tgt := 27) dX5_stepsTo_5 (by decide) (fun hc => ?_) (fun hc => ?_)
  · have H := H.1 hc
    exact xt_sub [1] rfl (VX5_stepsTo_27 H)
  · have H := H.2 hc
    refine xt_iload_n (j := 1) dX5_stepsTo_8 rfl rfl ?_
    refine xt_bipush (v := 48) dX5_stepsTo_9 (by decide) ?_
    refine xt_icmp_ge (tgt := 27) dX5_stepsTo_11 (by decide) (fun hc => ?_) (fun hc => ?_)
    · have H := H.1 hc
      exact xt_sub [1] rfl (VX5_stepsTo_27 H)
    · have H := H.2 hc
      refine xt_aload_n (j := 0) dX5_stepsTo_14 rfl rfl ?_
      obtain ⟨ho1, H⟩ := H
      obtain ⟨b2, hb, H⟩ := H
      refine xt_getR dX5_stepsTo_15 (flX5_50 rfl) ft_7_7 ho1.1 ho1.2 hb ?_
      refine xt_iload_n (j := 2) dX5_stepsTo_18 rfl rfl ?_
      obtain ⟨ho3, H⟩ := H
      obtain ⟨hi, H⟩ := H
      refine xt_iald dX5_stepsTo_19 ho3.1 ho3.2 hi ?_
      refine xt_istore_n (lv' := [(3, .int (mAI M b2 (x3 : Int32).toNatClampNeg)), (0, .ref x0), (2, .int x2)]) dX5_stepsTo_20 rfl (by decide) rfl ?_
      refine xt_iinc (j := 2) (v := x2 + 1) (lv' := [(2, .int (x2 + 1)), (3, .int (mAI M b2 (x3 : Int32).toNatClampNeg)), (0, .ref x0)]) dX5_stepsTo_21 rfl (by rfl) (by decide) rfl ?_
      refine xt_goto (tgt := 4) dX5_stepsTo_24 (by decide) ?_
      exact xt_sub (lv' := [(0, .ref x0), (2, .int (x2 + 1)), (3, .int (mAI M b2 (x3 : Int32).toNatClampNeg))]) [2, 0, 1] rfl H
def DX5_stepsTo_0 (h : Nat) (x0 : Nat) (x1 : Int32) (M : Mem) (Q : Option Value → Mem → Prop) : Prop :=
  T (h + 1) mdX5_stepsTo 4 [(0, .ref x0), (2, .int 0), (3, .int x1)] [] M Q
set_option maxRecDepth 20000 in
set_option maxHeartbeats 2000000 in
theorem VX5_stepsTo_0 {h : Nat} {x0 : Nat} {x1 : Int32} {M : Mem} {Q : Option Value → Mem → Prop} (H : DX5_stepsTo_0 h x0 x1 M Q) : T (h + 1) mdX5_stepsTo 0 [(0, .ref x0), (1, .int x1)] [] M Q := by
  unfold DX5_stepsTo_0 at H
  refine xt_iconst (v := 0) dX5_stepsTo_0 (by decide) ?_
  refine xt_istore_n (lv' := [(2, .int 0), (0, .ref x0), (1, .int x1)]) dX5_stepsTo_1 rfl (by decide) rfl ?_
  refine xt_iload_n (j := 2) dX5_stepsTo_2 rfl rfl ?_
  refine xt_istore_n (lv' := [(3, .int x1), (2, .int 0), (0, .ref x0), (1, .int x1)]) dX5_stepsTo_3 rfl (by decide) rfl ?_
  exact xt_sub (lv' := [(0, .ref x0), (2, .int 0), (3, .int x1)]) [2, 1, 0] rfl H
theorem KX5_stepsTo {h : Nat} {x0 : Nat} {x1 : Int32} {M : Mem} {Q : Option Value → Mem → Prop} (H : DX5_stepsTo_0 h x0 x1 M Q) : E (h + 1) mdX5_stepsTo [.ref x0, .int x1] M Q := E.of (by decide) (Nat.le_of_ble_eq_true rfl) (fun _ _ _ => trivial) (VX5_stepsTo_0 H)
def DX5_stepTo_31 (h : Nat) (x0 : Nat) (x3 : Int32) (M : Mem) (Q : Option Value → Mem → Prop) : Prop :=
  ok M x0 7 ∧ ∃ b2 : Nat, mR M x0 8 = some b2 ∧ ok M b2 21 ∧ vp_in x3 (mL M b2) ∧ Q (some (.int (mAI M b2 (x3 : Int32).toNatClampNeg))) M
set_option maxRecDepth 20000 in
set_option maxHeartbeats 2000000 in
theorem VX5_stepTo_31 {h : Nat} {x0 : Nat} {x3 : Int32} {M : Mem} {Q : Option Value → Mem → Prop} (H : DX5_stepTo_31 h x0 x3 M Q) : T (h + 1) mdX5_stepTo 31 [(0, .ref x0), (3, .int x3)] [] M Q := by
  unfold DX5_stepTo_31 at H
  refine xt_aload_n (j := 0) dX5_stepTo_31 rfl rfl ?_
  obtain ⟨ho1, H⟩ := H
  obtain ⟨b2, hb, H⟩ := H
  refine xt_getR dX5_stepTo_32 (flX5_53 rfl) ft_7_8 ho1.1 ho1.2 hb ?_
  refine xt_iload_n (j := 1) dX5_stepTo_35 rfl rfl ?_
  obtain ⟨ho3, H⟩ := H
  obtain ⟨hi, H⟩ := H
  refine xt_iald dX5_stepTo_36 ho3.1 ho3.2 hi ?_
  exact xt_ireturn dX5_stepTo_37 rfl H
def DX5_stepTo_5 (h : Nat) (x0 : Nat) (x2 : Int32) (x3 : Int32) (x4 : Int32) (M : Mem) (Q : Option Value → Mem → Prop) : Prop :=
  (x2 ≤ x4 → DX5_stepTo_31 h x0 x3 M Q) ∧
  (¬ (x2 ≤ x4) → (48 ≤ x4 → DX5_stepTo_31 h x0 x3 M Q) ∧
  (¬ (48 ≤ x4) → ok M x0 7 ∧ ∃ b2 : Nat, mR M x0 7 = some b2 ∧ ok M b2 21 ∧ vp_in x3 (mL M b2) ∧ T (h + 1) mdX5_stepTo 5 [(0, .ref x0), (2, .int x2), (3, .int (mAI M b2 (x3 : Int32).toNatClampNeg)), (4, .int (x4 + 1))] [] M Q))
set_option maxRecDepth 20000 in
set_option maxHeartbeats 2000000 in
theorem VX5_stepTo_5 {h : Nat} {x0 : Nat} {x2 : Int32} {x3 : Int32} {x4 : Int32} {M : Mem} {Q : Option Value → Mem → Prop} (H : DX5_stepTo_5 h x0 x2 x3 x4 M Q) : T (h + 1) mdX5_stepTo 5 [(0, .ref x0), (2, .int x2), (3, .int x3), (4, .int x4)] [] M Q := by
  unfold DX5_stepTo_5 at H
  refine xt_iload (j := 3) dX5_stepTo_5 rfl ?_
  refine xt_iload_n (j := 1) dX5_stepTo_7 rfl rfl ?_
  refine xt_icmp_ge (tgt := 31) dX5_stepTo_8 (by decide) (fun hc => ?_) (fun hc => ?_)
  · have H := H.1 hc
    exact xt_sub [0, 2] rfl (VX5_stepTo_31 H)
  · have H := H.2 hc
    refine xt_iload (j := 3) dX5_stepTo_11 rfl ?_
    refine xt_bipush (v := 48) dX5_stepTo_13 (by decide) ?_
    refine xt_icmp_ge (tgt := 31) dX5_stepTo_15 (by decide) (fun hc => ?_) (fun hc => ?_)
    · have H := H.1 hc
      exact xt_sub [0, 2] rfl (VX5_stepTo_31 H)
    · have H := H.2 hc
      refine xt_aload_n (j := 0) dX5_stepTo_18 rfl rfl ?_
      obtain ⟨ho1, H⟩ := H
      obtain ⟨b2, hb, H⟩ := H
      refine xt_getR dX5_stepTo_19 (flX5_50 rfl) ft_7_7 ho1.1 ho1.2 hb ?_
      refine xt_iload_n (j := 2) dX5_stepTo_22 rfl rfl ?_
      obtain ⟨ho3, H⟩ := H
      obtain ⟨hi, H⟩ := H
      refine xt_iald dX5_stepTo_23 ho3.1 ho3.2 hi ?_
      refine xt_istore_n (lv' := [(3, .int (mAI M b2 (x3 : Int32).toNatClampNeg)), (0, .ref x0), (2, .int x2), (4, .int x4)]) dX5_stepTo_24 rfl (by decide) rfl ?_
      refine xt_iinc (j := 3) (v := x4 + 1) (lv' := [(4, .int (x4 + 1)), (3, .int (mAI M b2 (x3 : Int32).toNatClampNeg)), (0, .ref x0), (2, .int x2)]) dX5_stepTo_25 rfl (by rfl) (by decide) rfl ?_
      refine xt_goto (tgt := 5) dX5_stepTo_28 (by decide) ?_
      exact xt_sub (lv' := [(0, .ref x0), (2, .int x2), (3, .int (mAI M b2 (x3 : Int32).toNatClampNeg)), (4, .int (x4 + 1))]) [2, 3, 1, 0] rfl H
def DX5_stepTo_0 (h : Nat) (x0 : Nat) (x1 : Int32) (x2 : Int32) (M : Mem) (Q : Option Value → Mem → Prop) : Prop :=
  T (h + 1) mdX5_stepTo 5 [(0, .ref x0), (2, .int x2), (3, .int x1), (4, .int 0)] [] M Q
set_option maxRecDepth 20000 in
set_option maxHeartbeats 2000000 in
theorem VX5_stepTo_0 {h : Nat} {x0 : Nat} {x1 : Int32} {x2 : Int32} {M : Mem} {Q : Option Value → Mem → Prop} (H : DX5_stepTo_0 h x0 x1 x2 M Q) : T (h + 1) mdX5_stepTo 0 [(0, .ref x0), (1, .int x1), (2, .int x2)] [] M Q := by
  unfold DX5_stepTo_0 at H
  refine xt_iload_n (j := 1) dX5_stepTo_0 rfl rfl ?_
  refine xt_istore_n (lv' := [(3, .int x1), (0, .ref x0), (1, .int x1), (2, .int x2)]) dX5_stepTo_1 rfl (by decide) rfl ?_
  refine xt_iconst (v := 0) dX5_stepTo_2 (by decide) ?_
  refine xt_istore (lv' := [(4, .int 0), (3, .int x1), (0, .ref x0), (1, .int x1), (2, .int x2)]) dX5_stepTo_3 (by decide) rfl ?_
  exact xt_sub (lv' := [(0, .ref x0), (2, .int x2), (3, .int x1), (4, .int 0)]) [2, 4, 1, 0] rfl H
theorem KX5_stepTo {h : Nat} {x0 : Nat} {x1 : Int32} {x2 : Int32} {M : Mem} {Q : Option Value → Mem → Prop} (H : DX5_stepTo_0 h x0 x1 x2 M Q) : E (h + 1) mdX5_stepTo [.ref x0, .int x1, .int x2] M Q := E.of (by decide) (Nat.le_of_ble_eq_true rfl) (fun _ _ _ => trivial) (VX5_stepTo_0 H)
def DX5_firstAgainst_60 (h : Nat) (x0 : Nat) (x1 : Int32) (x2 : Int32) (x3 : Int32) (x4 : Int32) (M : Mem) (Q : Option Value → Mem → Prop) : Prop :=
  T (h + 1) mdX5_firstAgainst 13 [(0, .ref x0), (1, .int x1), (2, .int x2), (3, .int x3), (4, .int (x4 + 1))] [] M Q
set_option maxRecDepth 20000 in
set_option maxHeartbeats 2000000 in
theorem VX5_firstAgainst_60 {h : Nat} {x0 : Nat} {x1 : Int32} {x2 : Int32} {x3 : Int32} {x4 : Int32} {M : Mem} {Q : Option Value → Mem → Prop} (H : DX5_firstAgainst_60 h x0 x1 x2 x3 x4 M Q) : T (h + 1) mdX5_firstAgainst 60 [(0, .ref x0), (1, .int x1), (2, .int x2), (3, .int x3), (4, .int x4)] [] M Q := by
  unfold DX5_firstAgainst_60 at H
  refine xt_iinc (j := 4) (v := x4 + 1) (lv' := [(4, .int (x4 + 1)), (0, .ref x0), (1, .int x1), (2, .int x2), (3, .int x3)]) dX5_firstAgainst_60 rfl (by rfl) (by decide) rfl ?_
  refine xt_goto (tgt := 13) dX5_firstAgainst_63 (by decide) ?_
  exact xt_sub (lv' := [(0, .ref x0), (1, .int x1), (2, .int x2), (3, .int x3), (4, .int (x4 + 1))]) [1, 2, 3, 4, 0] rfl H
def DX5_firstAgainst_13 (h : Nat) (x0 : Nat) (x1 : Int32) (x2 : Int32) (x3 : Int32) (x4 : Int32) (M : Mem) (Q : Option Value → Mem → Prop) : Prop :=
  ok M x0 7 ∧ ((mI M x0 1) ≤ x4 → T (h + 1) mdX5_firstAgainst 2 [(0, .ref x0), (1, .int x1), (2, .int x2), (3, .int (x3 + 1))] [] M Q) ∧
  (¬ ((mI M x0 1) ≤ x4) → ∃ b2 : Nat, mR M x0 10 = some b2 ∧ ok M b2 21 ∧ vp_in ((x3 * (mI M x0 1)) + x4) (mL M b2) ∧ (((mAI M b2 ((x3 * (mI M x0 1)) + x4 : Int32).toNatClampNeg) &&& x1) = 0 → DX5_firstAgainst_60 h x0 x1 x2 x3 x4 M Q) ∧
  (¬ (((mAI M b2 ((x3 * (mI M x0 1)) + x4 : Int32).toNatClampNeg) &&& x1) = 0) → (¬ ((mAI M b2 ((x3 * (mI M x0 1)) + x4 : Int32).toNatClampNeg) &&& x2) = 0 → DX5_firstAgainst_60 h x0 x1 x2 x3 x4 M Q) ∧
  (((mAI M b2 ((x3 * (mI M x0 1)) + x4 : Int32).toNatClampNeg) &&& x2) = 0 → Q (some (.int ((x3 * 32) + x4))) M)))
set_option maxRecDepth 20000 in
set_option maxHeartbeats 2000000 in
theorem VX5_firstAgainst_13 {h : Nat} {x0 : Nat} {x1 : Int32} {x2 : Int32} {x3 : Int32} {x4 : Int32} {M : Mem} {Q : Option Value → Mem → Prop} (H : DX5_firstAgainst_13 h x0 x1 x2 x3 x4 M Q) : T (h + 1) mdX5_firstAgainst 13 [(0, .ref x0), (1, .int x1), (2, .int x2), (3, .int x3), (4, .int x4)] [] M Q := by
  unfold DX5_firstAgainst_13 at H
  refine xt_iload (j := 4) dX5_firstAgainst_13 rfl ?_
  refine xt_aload_n (j := 0) dX5_firstAgainst_15 rfl rfl ?_
  obtain ⟨ho1, H⟩ := H
  refine xt_getI dX5_firstAgainst_16 (flX5_28 rfl) ft_7_1 ho1.1 ho1.2 ?_
  refine xt_icmp_ge (tgt := 66) dX5_firstAgainst_19 (by decide) (fun hc => ?_) (fun hc => ?_)
  · have H := H.1 hc
    refine xt_iinc (j := 3) (v := x3 + 1) (lv' := [(3, .int (x3 + 1)), (0, .ref x0), (1, .int x1), (2, .int x2), (4, .int x4)]) dX5_firstAgainst_66 rfl (by rfl) (by decide) rfl ?_
    refine xt_goto (tgt := 2) dX5_firstAgainst_69 (by decide) ?_
    exact xt_sub (lv' := [(0, .ref x0), (1, .int x1), (2, .int x2), (3, .int (x3 + 1))]) [1, 2, 3, 0] rfl H
  · have H := H.2 hc
    refine xt_aload_n (j := 0) dX5_firstAgainst_22 rfl rfl ?_
    obtain ⟨b2, hb, H⟩ := H
    refine xt_getR dX5_firstAgainst_23 (flX5_59 rfl) ft_7_10 ho1.1 ho1.2 hb ?_
    refine xt_iload_n (j := 3) dX5_firstAgainst_26 rfl rfl ?_
    refine xt_aload_n (j := 0) dX5_firstAgainst_27 rfl rfl ?_
    refine xt_getI dX5_firstAgainst_28 (flX5_28 rfl) ft_7_1 ho1.1 ho1.2 ?_
    refine xt_imul dX5_firstAgainst_31 ?_
    refine xt_iload (j := 4) dX5_firstAgainst_32 rfl ?_
    refine xt_iadd dX5_firstAgainst_34 ?_
    obtain ⟨ho3, H⟩ := H
    obtain ⟨hi, H⟩ := H
    refine xt_iald dX5_firstAgainst_35 ho3.1 ho3.2 hi ?_
    refine xt_istore (lv' := [(5, .int (mAI M b2 ((x3 * (mI M x0 1)) + x4 : Int32).toNatClampNeg)), (0, .ref x0), (1, .int x1), (2, .int x2), (3, .int x3), (4, .int x4)]) dX5_firstAgainst_36 (by decide) rfl ?_
    refine xt_iload (j := 0) dX5_firstAgainst_38 rfl ?_
    refine xt_iload_n (j := 2) dX5_firstAgainst_40 rfl rfl ?_
    refine xt_iand dX5_firstAgainst_41 ?_
    refine xt_if_eq (tgt := 60) dX5_firstAgainst_42 (by decide) (fun hc => ?_) (fun hc => ?_)
    · have H := H.1 hc
      exact xt_sub [1, 2, 3, 4, 5] rfl (VX5_firstAgainst_60 H)
    · have H := H.2 hc
      refine xt_iload (j := 0) dX5_firstAgainst_45 rfl ?_
      refine xt_iload_n (j := 3) dX5_firstAgainst_47 rfl rfl ?_
      refine xt_iand dX5_firstAgainst_48 ?_
      refine xt_if_ne (tgt := 60) dX5_firstAgainst_49 (by decide) (fun hc => ?_) (fun hc => ?_)
      · have H := H.1 hc
        exact xt_sub [1, 2, 3, 4, 5] rfl (VX5_firstAgainst_60 H)
      · have H := H.2 hc
        refine xt_iload_n (j := 4) dX5_firstAgainst_52 rfl rfl ?_
        refine xt_bipush (v := 32) dX5_firstAgainst_53 (by decide) ?_
        refine xt_imul dX5_firstAgainst_55 ?_
        refine xt_iload (j := 5) dX5_firstAgainst_56 rfl ?_
        refine xt_iadd dX5_firstAgainst_58 ?_
        exact xt_ireturn dX5_firstAgainst_59 rfl H
def DX5_firstAgainst_2 (h : Nat) (x0 : Nat) (x1 : Int32) (x2 : Int32) (x3 : Int32) (M : Mem) (Q : Option Value → Mem → Prop) : Prop :=
  ok M x0 7 ∧ ((mI M x0 3) ≤ x3 → Q (some (.int (-1))) M) ∧
  (¬ ((mI M x0 3) ≤ x3) → T (h + 1) mdX5_firstAgainst 13 [(0, .ref x0), (1, .int x1), (2, .int x2), (3, .int x3), (4, .int 0)] [] M Q)
set_option maxRecDepth 20000 in
set_option maxHeartbeats 2000000 in
theorem VX5_firstAgainst_2 {h : Nat} {x0 : Nat} {x1 : Int32} {x2 : Int32} {x3 : Int32} {M : Mem} {Q : Option Value → Mem → Prop} (H : DX5_firstAgainst_2 h x0 x1 x2 x3 M Q) : T (h + 1) mdX5_firstAgainst 2 [(0, .ref x0), (1, .int x1), (2, .int x2), (3, .int x3)] [] M Q := by
  unfold DX5_firstAgainst_2 at H
  refine xt_iload_n (j := 3) dX5_firstAgainst_2 rfl rfl ?_
  refine xt_aload_n (j := 0) dX5_firstAgainst_3 rfl rfl ?_
  obtain ⟨ho1, H⟩ := H
  refine xt_getI dX5_firstAgainst_4 (flX5_68 rfl) ft_7_3 ho1.1 ho1.2 ?_
  refine xt_icmp_ge (tgt := 72) dX5_firstAgainst_7 (by decide) (fun hc => ?_) (fun hc => ?_)
  · have H := H.1 hc
    refine xt_iconst (v := -1) dX5_firstAgainst_72 (by decide) ?_
    exact xt_ireturn dX5_firstAgainst_73 rfl H
  · have H := H.2 hc
    refine xt_iconst (v := 0) dX5_firstAgainst_10 (by decide) ?_
    refine xt_istore (lv' := [(4, .int 0), (0, .ref x0), (1, .int x1), (2, .int x2), (3, .int x3)]) dX5_firstAgainst_11 (by decide) rfl ?_
    exact xt_sub (lv' := [(0, .ref x0), (1, .int x1), (2, .int x2), (3, .int x3), (4, .int 0)]) [1, 2, 3, 4, 0] rfl H
def DX5_firstAgainst_0 (h : Nat) (x0 : Nat) (x1 : Int32) (x2 : Int32) (M : Mem) (Q : Option Value → Mem → Prop) : Prop :=
  T (h + 1) mdX5_firstAgainst 2 [(0, .ref x0), (1, .int x1), (2, .int x2), (3, .int 0)] [] M Q
set_option maxRecDepth 20000 in
set_option maxHeartbeats 2000000 in
theorem VX5_firstAgainst_0 {h : Nat} {x0 : Nat} {x1 : Int32} {x2 : Int32} {M : Mem} {Q : Option Value → Mem → Prop} (H : DX5_firstAgainst_0 h x0 x1 x2 M Q) : T (h + 1) mdX5_firstAgainst 0 [(0, .ref x0), (1, .int x1), (2, .int x2)] [] M Q := by
  unfold DX5_firstAgainst_0 at H
  refine xt_iconst (v := 0) dX5_firstAgainst_0 (by decide) ?_
  refine xt_istore_n (lv' := [(3, .int 0), (0, .ref x0), (1, .int x1), (2, .int x2)]) dX5_firstAgainst_1 rfl (by decide) rfl ?_
  exact xt_sub (lv' := [(0, .ref x0), (1, .int x1), (2, .int x2), (3, .int 0)]) [1, 2, 3, 0] rfl H
theorem KX5_firstAgainst {h : Nat} {x0 : Nat} {x1 : Int32} {x2 : Int32} {M : Mem} {Q : Option Value → Mem → Prop} (H : DX5_firstAgainst_0 h x0 x1 x2 M Q) : E (h + 1) mdX5_firstAgainst [.ref x0, .int x1, .int x2] M Q := E.of (by decide) (Nat.le_of_ble_eq_true rfl) (fun _ _ _ => trivial) (VX5_firstAgainst_0 H)
def DX6_init_0 (h : Nat) (x0 : Nat) (M : Mem) (Q : Option Value → Mem → Prop) : Prop :=
  ¬ (16 : Int32) < 0 ∧ ((16 : Int32).toNatClampNeg ≤ 100000000) ∧ ∀ (q2 : Nat) (M1 : Mem), q2 = mN M → M1 = nwA M 21 ((16 : Int32).toNatClampNeg) →
  ok M1 x0 8 ∧ ∀ M4 : Mem, M4 = wR M1 x0 0 (some q2) →
  ¬ (64 : Int32) < 0 ∧ ((64 : Int32).toNatClampNeg ≤ 60000000) ∧ ∀ (q6 : Nat) (M5 : Mem), q6 = mN M4 → M5 = nwA M4 23 ((64 : Int32).toNatClampNeg) →
  ∀ M7 : Mem, M7 = wR M5 x0 2 (some q6) →
  Q none M7
set_option maxRecDepth 20000 in
set_option maxHeartbeats 2000000 in
theorem VX6_init_0 {h : Nat} {x0 : Nat} {M : Mem} {Q : Option Value → Mem → Prop} (H : DX6_init_0 h x0 M Q) : T (h + 1) mdX6_init 0 [(0, .ref x0)] [] M Q := by
  unfold DX6_init_0 at H
  refine xt_aload_n (j := 0) dX6_init_0 rfl rfl ?_
  refine xt_objInit dX6_init_1 (oiX6_3 rfl) (by decide) (Nat.succ_le_succ (Nat.zero_le _)) ?_
  refine xt_aload_n (j := 0) dX6_init_4 rfl rfl ?_
  refine xt_bipush (v := 16) dX6_init_5 (by decide) ?_
  obtain ⟨hn, hy, H⟩ := H
  obtain ⟨M1, eM1⟩ : ∃ z, z = nwA M 21 ((16 : Int32).toNatClampNeg) := ⟨_, rfl⟩
  obtain ⟨q2, eq2⟩ : ∃ z, z = mN M := ⟨_, rfl⟩
  have H := H _ _ eq2 eM1
  refine xt_newI dX6_init_7 ac_I hn rfl hy ?_
  rw [← eM1, ← eq2]
  obtain ⟨ho3, H⟩ := H
  obtain ⟨M4, eM4⟩ : ∃ z, z = wR M1 x0 0 (some q2) := ⟨_, rfl⟩
  have H := H _ eM4
  refine xt_putR dX6_init_9 (flX6_9 rfl) ft_8_0 rfl ho3.1 ho3.2 ?_
  have ho3 : ok M4 x0 8 := by rw [eM4]; exact ho3
  rw [← eM4]
  refine xt_aload_n (j := 0) dX6_init_12 rfl rfl ?_
  refine xt_bipush (v := 64) dX6_init_13 (by decide) ?_
  obtain ⟨hn, hy, H⟩ := H
  obtain ⟨M5, eM5⟩ : ∃ z, z = nwA M4 23 ((64 : Int32).toNatClampNeg) := ⟨_, rfl⟩
  obtain ⟨q6, eq6⟩ : ∃ z, z = mN M4 := ⟨_, rfl⟩
  have H := H _ _ eq6 eM5
  refine xt_newJ dX6_init_15 ac_J hn rfl hy ?_
  have ho3 : ok M5 x0 8 := by rw [eM5]; exact ok_nwA ho3
  rw [← eM5, ← eq6]
  obtain ⟨M7, eM7⟩ : ∃ z, z = wR M5 x0 2 (some q6) := ⟨_, rfl⟩
  have H := H _ eM7
  refine xt_putR dX6_init_17 (flX6_15 rfl) ft_8_2 rfl ho3.1 ho3.2 ?_
  have ho3 : ok M7 x0 8 := by rw [eM7]; exact ho3
  rw [← eM7]
  exact xt_return dX6_init_20 rfl H
theorem KX6_init {h : Nat} {x0 : Nat} {M : Mem} {Q : Option Value → Mem → Prop} (H : DX6_init_0 h x0 M Q) : E (h + 1) mdX6_init [.ref x0] M Q := E.of (by decide) (Nat.le_of_ble_eq_true rfl) (fun _ _ _ => trivial) (VX6_init_0 H)
def DX6_add_29 (h : Nat) (x0 : Nat) (x1 : Int32) (M : Mem) (Q : Option Value → Mem → Prop) : Prop :=
  ok M x0 8 ∧ ∃ b2 : Nat, mR M x0 0 = some b2 ∧ ok M b2 21 ∧ vp_in (mI M x0 1) (mL M b2) ∧ ∀ M4 : Mem, M4 = wAI M b2 (mI M x0 1 : Int32).toNatClampNeg x1 →
  ∀ M5 : Mem, M5 = wI M4 x0 1 ((mI M4 x0 1) + 1) →
  Q none M5
set_option maxRecDepth 20000 in
set_option maxHeartbeats 2000000 in
theorem VX6_add_29 {h : Nat} {x0 : Nat} {x1 : Int32} {M : Mem} {Q : Option Value → Mem → Prop} (H : DX6_add_29 h x0 x1 M Q) : T (h + 1) mdX6_add 29 [(0, .ref x0), (1, .int x1)] [] M Q := by
  unfold DX6_add_29 at H
  refine xt_aload_n (j := 0) dX6_add_29 rfl rfl ?_
  obtain ⟨ho1, H⟩ := H
  obtain ⟨b2, hb, H⟩ := H
  refine xt_getR dX6_add_30 (flX6_9 rfl) ft_8_0 ho1.1 ho1.2 hb ?_
  refine xt_aload_n (j := 0) dX6_add_33 rfl rfl ?_
  refine xt_getI dX6_add_34 (flX6_19 rfl) ft_8_1 ho1.1 ho1.2 ?_
  refine xt_iload_n (j := 1) dX6_add_37 rfl rfl ?_
  obtain ⟨ho3, H⟩ := H
  obtain ⟨hi, H⟩ := H
  obtain ⟨M4, eM4⟩ : ∃ z, z = wAI M b2 (mI M x0 1 : Int32).toNatClampNeg x1 := ⟨_, rfl⟩
  have H := H _ eM4
  refine xt_iast dX6_add_38 ho3.1 ho3.2 hi ?_
  have ho1 : ok M4 x0 8 := by rw [eM4]; exact ho1
  rw [← eM4]
  refine xt_aload_n (j := 0) dX6_add_39 rfl rfl ?_
  refine xt_dup dX6_add_40 rfl ?_
  refine xt_getI dX6_add_41 (flX6_19 rfl) ft_8_1 ho1.1 ho1.2 ?_
  refine xt_iconst (v := 1) dX6_add_44 (by decide) ?_
  refine xt_iadd dX6_add_45 ?_
  obtain ⟨M5, eM5⟩ : ∃ z, z = wI M4 x0 1 ((mI M4 x0 1) + 1) := ⟨_, rfl⟩
  have H := H _ eM5
  refine xt_putI dX6_add_46 (flX6_19 rfl) ty_8_1 rfl ho1.1 ho1.2 ?_
  have ho1 : ok M5 x0 8 := by rw [eM5]; exact ho1
  rw [← eM5]
  exact xt_return dX6_add_49 rfl H
def DX6_add_0 (h : Nat) (x0 : Nat) (x1 : Int32) (M : Mem) (Q : Option Value → Mem → Prop) : Prop :=
  ok M x0 8 ∧ ∃ b2 : Nat, mR M x0 0 = some b2 ∧ ok M b2 21 ∧ (¬ (mI M x0 1) = (Int32.ofNat (mL M b2)) → DX6_add_29 h x0 x1 M Q) ∧
  ((mI M x0 1) = (Int32.ofNat (mL M b2)) → ∃ b4 : Nat, mR M x0 0 = some b4 ∧ E h mdJ7_copyOf_59c91 [.ref b4, .int ((mI M x0 1) * 2)] M (fun r M5 => mE M M5 → ∃ b6 : Nat, r = some (.ref b6) ∧ ∀ M7 : Mem, M7 = wR M5 x0 0 (some b6) →
  DX6_add_29 h x0 x1 M7 Q))
set_option maxRecDepth 20000 in
set_option maxHeartbeats 2000000 in
theorem VX6_add_0 {h : Nat} {x0 : Nat} {x1 : Int32} {M : Mem} {Q : Option Value → Mem → Prop} (H : DX6_add_0 h x0 x1 M Q) : T (h + 1) mdX6_add 0 [(0, .ref x0), (1, .int x1)] [] M Q := by
  unfold DX6_add_0 at H
  refine xt_aload_n (j := 0) dX6_add_0 rfl rfl ?_
  obtain ⟨ho1, H⟩ := H
  refine xt_getI dX6_add_1 (flX6_19 rfl) ft_8_1 ho1.1 ho1.2 ?_
  refine xt_aload_n (j := 0) dX6_add_4 rfl rfl ?_
  obtain ⟨b2, hb, H⟩ := H
  refine xt_getR dX6_add_5 (flX6_9 rfl) ft_8_0 ho1.1 ho1.2 hb ?_
  obtain ⟨ho3, H⟩ := H
  refine xt_alen dX6_add_8 ho3.1 (Or.inr (Or.inl ho3.2)) ?_
  refine xt_icmp_ne (tgt := 29) dX6_add_9 (by decide) (fun hc => ?_) (fun hc => ?_)
  · have H := H.1 hc
    exact xt_sub [0, 1] rfl (VX6_add_29 H)
  · have H := H.2 hc
    refine xt_aload_n (j := 0) dX6_add_12 rfl rfl ?_
    refine xt_aload_n (j := 0) dX6_add_13 rfl rfl ?_
    obtain ⟨b4, hb, H⟩ := H
    refine xt_getR dX6_add_14 (flX6_9 rfl) ft_8_0 ho1.1 ho1.2 hb ?_
    refine xt_aload_n (j := 0) dX6_add_17 rfl rfl ?_
    refine xt_getI dX6_add_18 (flX6_19 rfl) ft_8_1 ho1.1 ho1.2 ?_
    refine xt_iconst (v := 2) dX6_add_21 (by decide) ?_
    refine xt_imul dX6_add_22 ?_
    refine xt_callS (h2 := h) (as := [.ref b4, .int ((mI M x0 1) * 2)]) (st := [.ref x0]) dX6_add_23 (mlX6_23 rfl) rfl (by first | decide | (simp [Value.category]; done)) (Nat.le_refl _) H (fun r M5 HH hE => ?_)
    obtain ⟨b6, hr, H⟩ := HH hE
    subst hr
    have ho1 := ok_E ho1 hE
    show T _ _ _ _ [.ref b6, .ref x0] _ _
    obtain ⟨M7, eM7⟩ : ∃ z, z = wR M5 x0 0 (some b6) := ⟨_, rfl⟩
    have H := H _ eM7
    refine xt_putR dX6_add_26 (flX6_9 rfl) ft_8_0 rfl ho1.1 ho1.2 ?_
    have ho1 : ok M7 x0 8 := by rw [eM7]; exact ho1
    rw [← eM7]
    exact xt_sub [0, 1] rfl (VX6_add_29 H)
theorem KX6_add {h : Nat} {x0 : Nat} {x1 : Int32} {M : Mem} {Q : Option Value → Mem → Prop} (H : DX6_add_0 h x0 x1 M Q) : E (h + 1) mdX6_add [.ref x0, .int x1] M Q := E.of (by decide) (Nat.le_of_ble_eq_true rfl) (fun _ _ _ => trivial) (VX6_add_0 H)
def DX6_addWith_0 (h : Nat) (x0 : Nat) (x1 : Int32) (x2 : Int32) (M : Mem) (Q : Option Value → Mem → Prop) : Prop :=
  ok M x0 8 ∧ E h mdX6_add [.ref x0, .int x1] M (fun r M2 => mE M M2 → r = none ∧ E h mdX6_add [.ref x0, .int x2] M2 (fun r M3 => mE M2 M3 → r = none ∧ Q none M3))
set_option maxRecDepth 20000 in
set_option maxHeartbeats 2000000 in
theorem VX6_addWith_0 {h : Nat} {x0 : Nat} {x1 : Int32} {x2 : Int32} {M : Mem} {Q : Option Value → Mem → Prop} (H : DX6_addWith_0 h x0 x1 x2 M Q) : T (h + 1) mdX6_addWith 0 [(0, .ref x0), (1, .int x1), (2, .int x2)] [] M Q := by
  unfold DX6_addWith_0 at H
  refine xt_aload_n (j := 0) dX6_addWith_0 rfl rfl ?_
  refine xt_iload_n (j := 1) dX6_addWith_1 rfl rfl ?_
  obtain ⟨ho1, H⟩ := H
  refine xt_callV (h2 := h) (as := [.int x1]) (st := []) dX6_addWith_2 (mlX6_29 rfl) rfl ho1.1 ⟨by rw [ho1.2]; rfl, by rw [ho1.2]; decide⟩ (by first | decide | (simp [Value.category]; done)) (Nat.le_refl _) H (fun r M2 HH hE => ?_)
  obtain ⟨hr, H⟩ := HH hE
  subst hr
  have ho1 := ok_E ho1 hE
  show T _ _ _ _ [] _ _
  refine xt_aload_n (j := 0) dX6_addWith_5 rfl rfl ?_
  refine xt_iload_n (j := 2) dX6_addWith_6 rfl rfl ?_
  refine xt_callV (h2 := h) (as := [.int x2]) (st := []) dX6_addWith_7 (mlX6_29 rfl) rfl ho1.1 ⟨by rw [ho1.2]; rfl, by rw [ho1.2]; decide⟩ (by first | decide | (simp [Value.category]; done)) (Nat.le_refl _) H (fun r M3 HH hE => ?_)
  obtain ⟨hr, H⟩ := HH hE
  subst hr
  have ho1 := ok_E ho1 hE
  show T _ _ _ _ [] _ _
  exact xt_return dX6_addWith_10 rfl H
theorem KX6_addWith {h : Nat} {x0 : Nat} {x1 : Int32} {x2 : Int32} {M : Mem} {Q : Option Value → Mem → Prop} (H : DX6_addWith_0 h x0 x1 x2 M Q) : E (h + 1) mdX6_addWith [.ref x0, .int x1, .int x2] M Q := E.of (by decide) (Nat.le_of_ble_eq_true rfl) (fun _ _ _ => trivial) (VX6_addWith_0 H)
def DX6_work_147 (h : Nat) (s0 : Int32) (M : Mem) (Q : Option Value → Mem → Prop) : Prop :=
  Q (some (.int s0)) M
set_option maxRecDepth 20000 in
set_option maxHeartbeats 2000000 in
theorem VX6_work_147 {h : Nat} {s0 : Int32} {M : Mem} {Q : Option Value → Mem → Prop} (H : DX6_work_147 h s0 M Q) : T (h + 1) mdX6_work 147 [] [.int s0] M Q := by
  unfold DX6_work_147 at H
  exact xt_ireturn dX6_work_147 rfl H
def DX6_work_146 (h : Nat) (M : Mem) (Q : Option Value → Mem → Prop) : Prop :=
  DX6_work_147 h 0 M Q
set_option maxRecDepth 20000 in
set_option maxHeartbeats 2000000 in
theorem VX6_work_146 {h : Nat} {M : Mem} {Q : Option Value → Mem → Prop} (H : DX6_work_146 h  M Q) : T (h + 1) mdX6_work 146 [] [] M Q := by
  unfold DX6_work_146 at H
  refine xt_iconst (v := 0) dX6_work_146 (by decide) ?_
  exact xt_sub [] rfl (VX6_work_147 H)
def DX6_work_122 (h : Nat) (x0 : Nat) (M : Mem) (Q : Option Value → Mem → Prop) : Prop :=
  ok M x0 8 ∧ ((mI M x0 3) ≤ 0 → DX6_work_146 h  M Q) ∧
  (¬ ((mI M x0 3) ≤ 0) → (¬ (mI M x0 4) = 0 → DX6_work_146 h  M Q) ∧
  ((mI M x0 4) = 0 → ∃ b2 : Nat, mR M x0 2 = some b2 ∧ ok M b2 23 ∧ vp_in 0 (mL M b2) ∧ DX6_work_147 h ((mAJ M b2 (0 : Int32).toNatClampNeg : Int64).toInt32) M Q))
set_option maxRecDepth 20000 in
set_option maxHeartbeats 2000000 in
theorem VX6_work_122 {h : Nat} {x0 : Nat} {M : Mem} {Q : Option Value → Mem → Prop} (H : DX6_work_122 h x0 M Q) : T (h + 1) mdX6_work 122 [(0, .ref x0)] [] M Q := by
  unfold DX6_work_122 at H
  refine xt_aload_n (j := 0) dX6_work_122 rfl rfl ?_
  obtain ⟨ho1, H⟩ := H
  refine xt_getI dX6_work_123 (flX6_36 rfl) ft_8_3 ho1.1 ho1.2 ?_
  refine xt_if_le (tgt := 146) dX6_work_126 (by decide) (fun hc => ?_) (fun hc => ?_)
  · have H := H.1 hc
    exact xt_sub [] rfl (VX6_work_146 H)
  · have H := H.2 hc
    refine xt_aload_n (j := 0) dX6_work_129 rfl rfl ?_
    refine xt_getI dX6_work_130 (flX6_33 rfl) ft_8_4 ho1.1 ho1.2 ?_
    refine xt_if_ne (tgt := 146) dX6_work_133 (by decide) (fun hc => ?_) (fun hc => ?_)
    · have H := H.1 hc
      exact xt_sub [] rfl (VX6_work_146 H)
    · have H := H.2 hc
      refine xt_aload_n (j := 0) dX6_work_136 rfl rfl ?_
      obtain ⟨b2, hb, H⟩ := H
      refine xt_getR dX6_work_137 (flX6_15 rfl) ft_8_2 ho1.1 ho1.2 hb ?_
      refine xt_iconst (v := 0) dX6_work_140 (by decide) ?_
      obtain ⟨ho3, H⟩ := H
      obtain ⟨hi, H⟩ := H
      refine xt_lald dX6_work_141 ho3.1 ho3.2 hi ?_
      refine xt_l2i dX6_work_142 ?_
      refine xt_goto (tgt := 147) dX6_work_143 (by decide) ?_
      exact xt_sub [] rfl (VX6_work_147 H)
def DX6_work_116 (h : Nat) (x0 : Nat) (x2 : Nat) (x3 : Int32) (M : Mem) (Q : Option Value → Mem → Prop) : Prop :=
  T (h + 1) mdX6_work 12 [(0, .ref x0), (2, .ref x2), (3, .int (x3 + 1))] [] M Q
set_option maxRecDepth 20000 in
set_option maxHeartbeats 2000000 in
theorem VX6_work_116 {h : Nat} {x0 : Nat} {x2 : Nat} {x3 : Int32} {M : Mem} {Q : Option Value → Mem → Prop} (H : DX6_work_116 h x0 x2 x3 M Q) : T (h + 1) mdX6_work 116 [(0, .ref x0), (2, .ref x2), (3, .int x3)] [] M Q := by
  unfold DX6_work_116 at H
  refine xt_iinc (j := 2) (v := x3 + 1) (lv' := [(3, .int (x3 + 1)), (0, .ref x0), (2, .ref x2)]) dX6_work_116 rfl (by rfl) (by decide) rfl ?_
  refine xt_goto (tgt := 12) dX6_work_119 (by decide) ?_
  exact xt_sub (lv' := [(0, .ref x0), (2, .ref x2), (3, .int (x3 + 1))]) [1, 2, 0] rfl H
def DX6_work_79 (h : Nat) (x0 : Nat) (x2 : Nat) (x3 : Int32) (s0 : Nat) (s1 : Int32) (s2 : Int32) (M : Mem) (Q : Option Value → Mem → Prop) : Prop :=
  ok M s0 8 ∧ E h mdX6_push [.ref s0, .int s1, .int s2, .ref x2] M (fun r M2 => mE M M2 → r = none ∧ DX6_work_116 h x0 x2 (x3 + 1) M2 Q)
set_option maxRecDepth 20000 in
set_option maxHeartbeats 2000000 in
theorem VX6_work_79 {h : Nat} {x0 : Nat} {x2 : Nat} {x3 : Int32} {s0 : Nat} {s1 : Int32} {s2 : Int32} {M : Mem} {Q : Option Value → Mem → Prop} (H : DX6_work_79 h x0 x2 x3 s0 s1 s2 M Q) : T (h + 1) mdX6_work 79 [(0, .ref x0), (2, .ref x2), (3, .int x3)] [.int s2, .int s1, .ref s0] M Q := by
  unfold DX6_work_79 at H
  refine xt_aload_n (j := 1) dX6_work_79 rfl rfl ?_
  obtain ⟨ho1, H⟩ := H
  refine xt_callV (h2 := h) (as := [.int s1, .int s2, .ref x2]) (st := []) dX6_work_80 (mlX6_39 rfl) rfl ho1.1 ⟨by rw [ho1.2]; rfl, by rw [ho1.2]; decide⟩ (by first | decide | (simp [Value.category]; done)) (Nat.le_refl _) H (fun r M2 HH hE => ?_)
  obtain ⟨hr, H⟩ := HH hE
  subst hr
  show T _ _ _ _ [] _ _
  refine xt_iinc (j := 2) (v := x3 + 1) (lv' := [(3, .int (x3 + 1)), (0, .ref x0), (2, .ref x2)]) dX6_work_83 rfl (by rfl) (by decide) rfl ?_
  refine xt_goto (tgt := 116) dX6_work_86 (by decide) ?_
  exact xt_sub [1, 2, 0] rfl (VX6_work_116 H)
def DX6_work_12 (h : Nat) (x0 : Nat) (x2 : Nat) (x3 : Int32) (M : Mem) (Q : Option Value → Mem → Prop) : Prop :=
  (x3 < 0 → DX6_work_122 h x0 M Q) ∧
  (¬ (x3 < 0) → ok M x0 8 ∧ ((mI M x0 1) ≤ x3 → DX6_work_122 h x0 M Q) ∧
  (¬ ((mI M x0 1) ≤ x3) → ∃ b2 : Nat, mR M x0 0 = some b2 ∧ ok M b2 21 ∧ vp_in x3 (mL M b2) ∧ ((mAI M b2 (x3 : Int32).toNatClampNeg) = 0 → DX6_work_122 h x0 M Q) ∧
  (¬ ((mAI M b2 (x3 : Int32).toNatClampNeg) = 0) → (¬ (mI M x0 4) = 0 → DX6_work_122 h x0 M Q) ∧
  ((mI M x0 4) = 0 → ∃ b4 : Nat, mR M x0 0 = some b4 ∧ ok M b4 21 ∧ vp_in x3 (mL M b4) ∧ (3 < (mAI M b4 (x3 : Int32).toNatClampNeg) → ∃ b6 : Nat, mR M x0 0 = some b6 ∧ ok M b6 21 ∧ vp_in x3 (mL M b6) ∧ (¬ (mAI M b6 (x3 : Int32).toNatClampNeg) = 4 → ∃ b8 : Nat, mR M x0 0 = some b8 ∧ ok M b8 21 ∧ vp_in x3 (mL M b8) ∧ E h mdX6_combine [.ref x0, .int (mAI M b8 (x3 : Int32).toNatClampNeg)] M (fun r M10 => mE M M10 → r = none ∧ DX6_work_116 h x0 x2 x3 M10 Q)) ∧
  ((mAI M b6 (x3 : Int32).toNatClampNeg) = 4 → E h mdX6_negate [.ref x0] M (fun r M11 => mE M M11 → r = none ∧ DX6_work_116 h x0 x2 x3 M11 Q))) ∧
  (¬ (3 < (mAI M b4 (x3 : Int32).toNatClampNeg)) → ∃ b12 : Nat, mR M x0 0 = some b12 ∧ ok M b12 21 ∧ vp_in x3 (mL M b12) ∧ ((mI M x0 1) ≤ (x3 + 1) → DX6_work_79 h x0 x2 x3 x0 (mAI M b12 (x3 : Int32).toNatClampNeg) 0 M Q) ∧
  (¬ ((mI M x0 1) ≤ (x3 + 1)) → ∃ b14 : Nat, mR M x0 0 = some b14 ∧ ok M b14 21 ∧ vp_in (x3 + 1) (mL M b14) ∧ DX6_work_79 h x0 x2 x3 x0 (mAI M b12 (x3 : Int32).toNatClampNeg) (mAI M b14 (x3 + 1 : Int32).toNatClampNeg) M Q))))))
set_option maxRecDepth 20000 in
set_option maxHeartbeats 2000000 in
theorem VX6_work_12 {h : Nat} {x0 : Nat} {x2 : Nat} {x3 : Int32} {M : Mem} {Q : Option Value → Mem → Prop} (H : DX6_work_12 h x0 x2 x3 M Q) : T (h + 1) mdX6_work 12 [(0, .ref x0), (2, .ref x2), (3, .int x3)] [] M Q := by
  unfold DX6_work_12 at H
  refine xt_iload_n (j := 2) dX6_work_12 rfl rfl ?_
  refine xt_if_lt (tgt := 122) dX6_work_13 (by decide) (fun hc => ?_) (fun hc => ?_)
  · have H := H.1 hc
    exact xt_sub [0] rfl (VX6_work_122 H)
  · have H := H.2 hc
    refine xt_iload_n (j := 2) dX6_work_16 rfl rfl ?_
    refine xt_aload_n (j := 0) dX6_work_17 rfl rfl ?_
    obtain ⟨ho1, H⟩ := H
    refine xt_getI dX6_work_18 (flX6_19 rfl) ft_8_1 ho1.1 ho1.2 ?_
    refine xt_icmp_ge (tgt := 122) dX6_work_21 (by decide) (fun hc => ?_) (fun hc => ?_)
    · have H := H.1 hc
      exact xt_sub [0] rfl (VX6_work_122 H)
    · have H := H.2 hc
      refine xt_aload_n (j := 0) dX6_work_24 rfl rfl ?_
      obtain ⟨b2, hb, H⟩ := H
      refine xt_getR dX6_work_25 (flX6_9 rfl) ft_8_0 ho1.1 ho1.2 hb ?_
      refine xt_iload_n (j := 2) dX6_work_28 rfl rfl ?_
      obtain ⟨ho3, H⟩ := H
      obtain ⟨hi, H⟩ := H
      refine xt_iald dX6_work_29 ho3.1 ho3.2 hi ?_
      refine xt_if_eq (tgt := 122) dX6_work_30 (by decide) (fun hc => ?_) (fun hc => ?_)
      · have H := H.1 hc
        exact xt_sub [0] rfl (VX6_work_122 H)
      · have H := H.2 hc
        refine xt_aload_n (j := 0) dX6_work_33 rfl rfl ?_
        refine xt_getI dX6_work_34 (flX6_33 rfl) ft_8_4 ho1.1 ho1.2 ?_
        refine xt_if_ne (tgt := 122) dX6_work_37 (by decide) (fun hc => ?_) (fun hc => ?_)
        · have H := H.1 hc
          exact xt_sub [0] rfl (VX6_work_122 H)
        · have H := H.2 hc
          refine xt_aload_n (j := 0) dX6_work_40 rfl rfl ?_
          obtain ⟨b4, hb, H⟩ := H
          refine xt_getR dX6_work_41 (flX6_9 rfl) ft_8_0 ho1.1 ho1.2 hb ?_
          refine xt_iload_n (j := 2) dX6_work_44 rfl rfl ?_
          obtain ⟨ho5, H⟩ := H
          obtain ⟨hi, H⟩ := H
          refine xt_iald dX6_work_45 ho5.1 ho5.2 hi ?_
          refine xt_iconst (v := 3) dX6_work_46 (by decide) ?_
          refine xt_icmp_gt (tgt := 89) dX6_work_47 (by decide) (fun hc => ?_) (fun hc => ?_)
          · have H := H.1 hc
            refine xt_aload_n (j := 0) dX6_work_89 rfl rfl ?_
            obtain ⟨b6, hb, H⟩ := H
            refine xt_getR dX6_work_90 (flX6_9 rfl) ft_8_0 ho1.1 ho1.2 hb ?_
            refine xt_iload_n (j := 2) dX6_work_93 rfl rfl ?_
            obtain ⟨ho7, H⟩ := H
            obtain ⟨hi, H⟩ := H
            refine xt_iald dX6_work_94 ho7.1 ho7.2 hi ?_
            refine xt_iconst (v := 4) dX6_work_95 (by decide) ?_
            refine xt_icmp_ne (tgt := 106) dX6_work_96 (by decide) (fun hc => ?_) (fun hc => ?_)
            · have H := H.1 hc
              refine xt_aload_n (j := 0) dX6_work_106 rfl rfl ?_
              refine xt_aload_n (j := 0) dX6_work_107 rfl rfl ?_
              obtain ⟨b8, hb, H⟩ := H
              refine xt_getR dX6_work_108 (flX6_9 rfl) ft_8_0 ho1.1 ho1.2 hb ?_
              refine xt_iload_n (j := 2) dX6_work_111 rfl rfl ?_
              obtain ⟨ho9, H⟩ := H
              obtain ⟨hi, H⟩ := H
              refine xt_iald dX6_work_112 ho9.1 ho9.2 hi ?_
              refine xt_callV (h2 := h) (as := [.int (mAI M b8 (x3 : Int32).toNatClampNeg)]) (st := []) dX6_work_113 (mlX6_46 rfl) rfl ho1.1 ⟨by rw [ho1.2]; rfl, by rw [ho1.2]; decide⟩ (by first | decide | (simp [Value.category]; done)) (Nat.le_refl _) H (fun r M10 HH hE => ?_)
              obtain ⟨hr, H⟩ := HH hE
              subst hr
              have ho1 := ok_E ho1 hE
              show T _ _ _ _ [] _ _
              exact xt_sub [0, 1, 2] rfl (VX6_work_116 H)
            · have H := H.2 hc
              refine xt_aload_n (j := 0) dX6_work_99 rfl rfl ?_
              refine xt_callV (h2 := h) (as := []) (st := []) dX6_work_100 (mlX6_43 rfl) rfl ho1.1 ⟨by rw [ho1.2]; rfl, by rw [ho1.2]; decide⟩ (by first | decide | (simp [Value.category]; done)) (Nat.le_refl _) H (fun r M11 HH hE => ?_)
              obtain ⟨hr, H⟩ := HH hE
              subst hr
              have ho1 := ok_E ho1 hE
              show T _ _ _ _ [] _ _
              refine xt_goto (tgt := 116) dX6_work_103 (by decide) ?_
              exact xt_sub [0, 1, 2] rfl (VX6_work_116 H)
          · have H := H.2 hc
            refine xt_aload_n (j := 0) dX6_work_50 rfl rfl ?_
            refine xt_aload_n (j := 0) dX6_work_51 rfl rfl ?_
            obtain ⟨b12, hb, H⟩ := H
            refine xt_getR dX6_work_52 (flX6_9 rfl) ft_8_0 ho1.1 ho1.2 hb ?_
            refine xt_iload_n (j := 2) dX6_work_55 rfl rfl ?_
            obtain ⟨ho13, H⟩ := H
            obtain ⟨hi, H⟩ := H
            refine xt_iald dX6_work_56 ho13.1 ho13.2 hi ?_
            refine xt_iload_n (j := 2) dX6_work_57 rfl rfl ?_
            refine xt_iconst (v := 1) dX6_work_58 (by decide) ?_
            refine xt_iadd dX6_work_59 ?_
            refine xt_aload_n (j := 0) dX6_work_60 rfl rfl ?_
            refine xt_getI dX6_work_61 (flX6_19 rfl) ft_8_1 ho1.1 ho1.2 ?_
            refine xt_icmp_ge (tgt := 78) dX6_work_64 (by decide) (fun hc => ?_) (fun hc => ?_)
            · have H := H.1 hc
              refine xt_iconst (v := 0) dX6_work_78 (by decide) ?_
              exact xt_sub [0, 1, 2] rfl (VX6_work_79 H)
            · have H := H.2 hc
              refine xt_aload_n (j := 0) dX6_work_67 rfl rfl ?_
              obtain ⟨b14, hb, H⟩ := H
              refine xt_getR dX6_work_68 (flX6_9 rfl) ft_8_0 ho1.1 ho1.2 hb ?_
              refine xt_iload_n (j := 2) dX6_work_71 rfl rfl ?_
              refine xt_iconst (v := 1) dX6_work_72 (by decide) ?_
              refine xt_iadd dX6_work_73 ?_
              obtain ⟨ho15, H⟩ := H
              obtain ⟨hi, H⟩ := H
              refine xt_iald dX6_work_74 ho15.1 ho15.2 hi ?_
              refine xt_goto (tgt := 79) dX6_work_75 (by decide) ?_
              exact xt_sub [0, 1, 2] rfl (VX6_work_79 H)
def DX6_work_0 (h : Nat) (x0 : Nat) (x1 : Int32) (x2 : Nat) (M : Mem) (Q : Option Value → Mem → Prop) : Prop :=
  ok M x0 8 ∧ ∀ M2 : Mem, M2 = wI M x0 4 0 →
  ∀ M3 : Mem, M3 = wI M2 x0 3 0 →
  T (h + 1) mdX6_work 12 [(0, .ref x0), (2, .ref x2), (3, .int x1)] [] M3 Q
set_option maxRecDepth 20000 in
set_option maxHeartbeats 2000000 in
theorem VX6_work_0 {h : Nat} {x0 : Nat} {x1 : Int32} {x2 : Nat} {M : Mem} {Q : Option Value → Mem → Prop} (H : DX6_work_0 h x0 x1 x2 M Q) : T (h + 1) mdX6_work 0 [(0, .ref x0), (1, .int x1), (2, .ref x2)] [] M Q := by
  unfold DX6_work_0 at H
  refine xt_aload_n (j := 0) dX6_work_0 rfl rfl ?_
  refine xt_iconst (v := 0) dX6_work_1 (by decide) ?_
  obtain ⟨ho1, H⟩ := H
  obtain ⟨M2, eM2⟩ : ∃ z, z = wI M x0 4 0 := ⟨_, rfl⟩
  have H := H _ eM2
  refine xt_putI dX6_work_2 (flX6_33 rfl) ty_8_4 rfl ho1.1 ho1.2 ?_
  have ho1 : ok M2 x0 8 := by rw [eM2]; exact ho1
  rw [← eM2]
  refine xt_aload_n (j := 0) dX6_work_5 rfl rfl ?_
  refine xt_iconst (v := 0) dX6_work_6 (by decide) ?_
  obtain ⟨M3, eM3⟩ : ∃ z, z = wI M2 x0 3 0 := ⟨_, rfl⟩
  have H := H _ eM3
  refine xt_putI dX6_work_7 (flX6_36 rfl) ty_8_3 rfl ho1.1 ho1.2 ?_
  have ho1 : ok M3 x0 8 := by rw [eM3]; exact ho1
  rw [← eM3]
  refine xt_iload_n (j := 1) dX6_work_10 rfl rfl ?_
  refine xt_istore_n (lv' := [(3, .int x1), (0, .ref x0), (1, .int x1), (2, .ref x2)]) dX6_work_11 rfl (by decide) rfl ?_
  exact xt_sub (lv' := [(0, .ref x0), (2, .ref x2), (3, .int x1)]) [1, 3, 0] rfl H
theorem KX6_work {h : Nat} {x0 : Nat} {x1 : Int32} {x2 : Nat} {M : Mem} {Q : Option Value → Mem → Prop} (H : DX6_work_0 h x0 x1 x2 M Q) : E (h + 1) mdX6_work [.ref x0, .int x1, .ref x2] M Q := E.of (by decide) (Nat.le_of_ble_eq_true rfl) (fun _ _ _ => trivial) (VX6_work_0 H)
def DX6_push_74 (h : Nat) (x0 : Nat) (M : Mem) (Q : Option Value → Mem → Prop) : Prop :=
  ok M x0 8 ∧ ∀ M2 : Mem, M2 = wI M x0 3 ((mI M x0 3) + 1) →
  Q none M2
set_option maxRecDepth 20000 in
set_option maxHeartbeats 2000000 in
theorem VX6_push_74 {h : Nat} {x0 : Nat} {M : Mem} {Q : Option Value → Mem → Prop} (H : DX6_push_74 h x0 M Q) : T (h + 1) mdX6_push 74 [(0, .ref x0)] [] M Q := by
  unfold DX6_push_74 at H
  refine xt_aload_n (j := 0) dX6_push_74 rfl rfl ?_
  refine xt_dup dX6_push_75 rfl ?_
  obtain ⟨ho1, H⟩ := H
  refine xt_getI dX6_push_76 (flX6_36 rfl) ft_8_3 ho1.1 ho1.2 ?_
  refine xt_iconst (v := 1) dX6_push_79 (by decide) ?_
  refine xt_iadd dX6_push_80 ?_
  obtain ⟨M2, eM2⟩ : ∃ z, z = wI M x0 3 ((mI M x0 3) + 1) := ⟨_, rfl⟩
  have H := H _ eM2
  refine xt_putI dX6_push_81 (flX6_36 rfl) ty_8_3 rfl ho1.1 ho1.2 ?_
  have ho1 : ok M2 x0 8 := by rw [eM2]; exact ho1
  rw [← eM2]
  exact xt_return dX6_push_84 rfl H
def DX6_push_73 (h : Nat) (x0 : Nat) (s0 : Nat) (s1 : Int32) (s2 : Int64) (M : Mem) (Q : Option Value → Mem → Prop) : Prop :=
  ok M s0 23 ∧ vp_in s1 (mL M s0) ∧ ∀ M2 : Mem, M2 = wAJ M s0 (s1 : Int32).toNatClampNeg s2 →
  DX6_push_74 h x0 M2 Q
set_option maxRecDepth 20000 in
set_option maxHeartbeats 2000000 in
theorem VX6_push_73 {h : Nat} {x0 : Nat} {s0 : Nat} {s1 : Int32} {s2 : Int64} {M : Mem} {Q : Option Value → Mem → Prop} (H : DX6_push_73 h x0 s0 s1 s2 M Q) : T (h + 1) mdX6_push 73 [(0, .ref x0)] [.long s2, .int s1, .ref s0] M Q := by
  unfold DX6_push_73 at H
  obtain ⟨ho1, H⟩ := H
  obtain ⟨hi, H⟩ := H
  obtain ⟨M2, eM2⟩ : ∃ z, z = wAJ M s0 (s1 : Int32).toNatClampNeg s2 := ⟨_, rfl⟩
  have H := H _ eM2
  refine xt_last dX6_push_73 ho1.1 ho1.2 hi ?_
  rw [← eM2]
  exact xt_sub [0] rfl (VX6_push_74 H)
def DX6_push_28 (h : Nat) (x0 : Nat) (x1 : Int32) (x2 : Int32) (x3 : Nat) (s0 : Int32) (M : Mem) (Q : Option Value → Mem → Prop) : Prop :=
  (¬ x1 = 1 → ok M x0 8 ∧ ∃ b2 : Nat, mR M x0 2 = some b2 ∧ ok M x3 21 ∧ ((Int32.ofNat (mL M x3)) ≤ s0 → DX6_push_73 h x0 b2 (mI M x0 3) 0 M Q) ∧
  (¬ ((Int32.ofNat (mL M x3)) ≤ s0) → vp_in s0 (mL M x3) ∧ DX6_push_73 h x0 b2 (mI M x0 3) ((mAI M x3 (s0 : Int32).toNatClampNeg : Int32).toInt64) M Q)) ∧
  (x1 = 1 → ok M x0 8 ∧ ∃ b5 : Nat, mR M x0 2 = some b5 ∧ ok M b5 23 ∧ vp_in (mI M x0 3) (mL M b5) ∧ ∀ M7 : Mem, M7 = wAJ M b5 (mI M x0 3 : Int32).toNatClampNeg ((x2 : Int32).toInt64) →
  DX6_push_74 h x0 M7 Q)
set_option maxRecDepth 20000 in
set_option maxHeartbeats 2000000 in
theorem VX6_push_28 {h : Nat} {x0 : Nat} {x1 : Int32} {x2 : Int32} {x3 : Nat} {s0 : Int32} {M : Mem} {Q : Option Value → Mem → Prop} (H : DX6_push_28 h x0 x1 x2 x3 s0 M Q) : T (h + 1) mdX6_push 28 [(0, .ref x0), (1, .int x1), (2, .int x2), (3, .ref x3)] [.int s0] M Q := by
  unfold DX6_push_28 at H
  refine xt_istore (lv' := [(4, .int s0), (0, .ref x0), (1, .int x1), (2, .int x2), (3, .ref x3)]) dX6_push_28 (by decide) rfl ?_
  refine xt_iload_n (j := 2) dX6_push_30 rfl rfl ?_
  refine xt_iconst (v := 1) dX6_push_31 (by decide) ?_
  refine xt_icmp_ne (tgt := 49) dX6_push_32 (by decide) (fun hc => ?_) (fun hc => ?_)
  · have H := H.1 hc
    refine xt_aload_n (j := 1) dX6_push_49 rfl rfl ?_
    obtain ⟨ho1, H⟩ := H
    obtain ⟨b2, hb, H⟩ := H
    refine xt_getR dX6_push_50 (flX6_15 rfl) ft_8_2 ho1.1 ho1.2 hb ?_
    refine xt_aload_n (j := 1) dX6_push_53 rfl rfl ?_
    refine xt_getI dX6_push_54 (flX6_36 rfl) ft_8_3 ho1.1 ho1.2 ?_
    refine xt_iload (j := 0) dX6_push_57 rfl ?_
    refine xt_aload_n (j := 4) dX6_push_59 rfl rfl ?_
    obtain ⟨ho3, H⟩ := H
    refine xt_alen dX6_push_60 ho3.1 (Or.inr (Or.inl ho3.2)) ?_
    refine xt_icmp_ge (tgt := 72) dX6_push_61 (by decide) (fun hc => ?_) (fun hc => ?_)
    · have H := H.1 hc
      refine xt_lconst (v := 0) dX6_push_72 (by decide) ?_
      exact xt_sub [1] rfl (VX6_push_73 H)
    · have H := H.2 hc
      refine xt_aload_n (j := 4) dX6_push_64 rfl rfl ?_
      refine xt_iload (j := 0) dX6_push_65 rfl ?_
      obtain ⟨hi, H⟩ := H
      refine xt_iald dX6_push_67 ho3.1 ho3.2 hi ?_
      refine xt_i2l dX6_push_68 ?_
      refine xt_goto (tgt := 73) dX6_push_69 (by decide) ?_
      exact xt_sub [1] rfl (VX6_push_73 H)
  · have H := H.2 hc
    refine xt_aload_n (j := 1) dX6_push_35 rfl rfl ?_
    obtain ⟨ho4, H⟩ := H
    obtain ⟨b5, hb, H⟩ := H
    refine xt_getR dX6_push_36 (flX6_15 rfl) ft_8_2 ho4.1 ho4.2 hb ?_
    refine xt_aload_n (j := 1) dX6_push_39 rfl rfl ?_
    refine xt_getI dX6_push_40 (flX6_36 rfl) ft_8_3 ho4.1 ho4.2 ?_
    refine xt_iload_n (j := 3) dX6_push_43 rfl rfl ?_
    refine xt_i2l dX6_push_44 ?_
    obtain ⟨ho6, H⟩ := H
    obtain ⟨hi, H⟩ := H
    obtain ⟨M7, eM7⟩ : ∃ z, z = wAJ M b5 (mI M x0 3 : Int32).toNatClampNeg ((x2 : Int32).toInt64) := ⟨_, rfl⟩
    have H := H _ eM7
    refine xt_last dX6_push_45 ho6.1 ho6.2 hi ?_
    have ho4 : ok M7 x0 8 := by rw [eM7]; exact ho4
    rw [← eM7]
    refine xt_goto (tgt := 74) dX6_push_46 (by decide) ?_
    exact xt_sub [1] rfl (VX6_push_74 H)
def DX6_push_0 (h : Nat) (x0 : Nat) (x1 : Int32) (x2 : Int32) (x3 : Nat) (M : Mem) (Q : Option Value → Mem → Prop) : Prop :=
  ok M x0 8 ∧ ∃ b2 : Nat, mR M x0 2 = some b2 ∧ ok M b2 23 ∧ ((mI M x0 3) < (Int32.ofNat (mL M b2)) → (¬ x1 = 2 → DX6_push_28 h x0 x1 x2 x3 (4 + x2) M Q) ∧
  (x1 = 2 → DX6_push_28 h x0 x1 x2 x3 (20 + x2) M Q)) ∧
  (¬ ((mI M x0 3) < (Int32.ofNat (mL M b2))) → Q none M)
set_option maxRecDepth 20000 in
set_option maxHeartbeats 2000000 in
theorem VX6_push_0 {h : Nat} {x0 : Nat} {x1 : Int32} {x2 : Int32} {x3 : Nat} {M : Mem} {Q : Option Value → Mem → Prop} (H : DX6_push_0 h x0 x1 x2 x3 M Q) : T (h + 1) mdX6_push 0 [(0, .ref x0), (1, .int x1), (2, .int x2), (3, .ref x3)] [] M Q := by
  unfold DX6_push_0 at H
  refine xt_aload_n (j := 0) dX6_push_0 rfl rfl ?_
  obtain ⟨ho1, H⟩ := H
  refine xt_getI dX6_push_1 (flX6_36 rfl) ft_8_3 ho1.1 ho1.2 ?_
  refine xt_aload_n (j := 0) dX6_push_4 rfl rfl ?_
  obtain ⟨b2, hb, H⟩ := H
  refine xt_getR dX6_push_5 (flX6_15 rfl) ft_8_2 ho1.1 ho1.2 hb ?_
  obtain ⟨ho3, H⟩ := H
  refine xt_alen dX6_push_8 ho3.1 (Or.inr (Or.inr (Or.inr (Or.inl ho3.2)))) ?_
  refine xt_icmp_lt (tgt := 13) dX6_push_9 (by decide) (fun hc => ?_) (fun hc => ?_)
  · have H := H.1 hc
    refine xt_iload_n (j := 1) dX6_push_13 rfl rfl ?_
    refine xt_iconst (v := 2) dX6_push_14 (by decide) ?_
    refine xt_icmp_ne (tgt := 25) dX6_push_15 (by decide) (fun hc => ?_) (fun hc => ?_)
    · have H := H.1 hc
      refine xt_iconst (v := 4) dX6_push_25 (by decide) ?_
      refine xt_iload_n (j := 2) dX6_push_26 rfl rfl ?_
      refine xt_iadd dX6_push_27 ?_
      exact xt_sub [0, 1, 2, 3] rfl (VX6_push_28 H)
    · have H := H.2 hc
      refine xt_bipush (v := 20) dX6_push_18 (by decide) ?_
      refine xt_iload_n (j := 2) dX6_push_20 rfl rfl ?_
      refine xt_iadd dX6_push_21 ?_
      refine xt_goto (tgt := 28) dX6_push_22 (by decide) ?_
      exact xt_sub [0, 1, 2, 3] rfl (VX6_push_28 H)
  · have H := H.2 hc
    exact xt_return dX6_push_12 rfl H
theorem KX6_push {h : Nat} {x0 : Nat} {x1 : Int32} {x2 : Int32} {x3 : Nat} {M : Mem} {Q : Option Value → Mem → Prop} (H : DX6_push_0 h x0 x1 x2 x3 M Q) : E (h + 1) mdX6_push [.ref x0, .int x1, .int x2, .ref x3] M Q := E.of (by decide) (Nat.le_of_ble_eq_true rfl) (fun _ _ _ => trivial) (VX6_push_0 H)
def DX6_negate_30 (h : Nat) (M : Mem) (Q : Option Value → Mem → Prop) : Prop :=
  Q none M
set_option maxRecDepth 20000 in
set_option maxHeartbeats 2000000 in
theorem VX6_negate_30 {h : Nat} {M : Mem} {Q : Option Value → Mem → Prop} (H : DX6_negate_30 h  M Q) : T (h + 1) mdX6_negate 30 [] [] M Q := by
  unfold DX6_negate_30 at H
  exact xt_return dX6_negate_30 rfl H
def DX6_negate_0 (h : Nat) (x0 : Nat) (M : Mem) (Q : Option Value → Mem → Prop) : Prop :=
  ok M x0 8 ∧ ((mI M x0 3) ≤ 0 → DX6_negate_30 h  M Q) ∧
  (¬ ((mI M x0 3) ≤ 0) → ∃ b2 : Nat, mR M x0 2 = some b2 ∧ ∃ b3 : Nat, mR M x0 2 = some b3 ∧ ok M b3 23 ∧ vp_in ((mI M x0 3) - 1) (mL M b3) ∧ ok M b2 23 ∧ vp_in ((mI M x0 3) - 1) (mL M b2) ∧ ∀ M6 : Mem, M6 = wAJ M b2 ((mI M x0 3) - 1 : Int32).toNatClampNeg (-(mAJ M b3 ((mI M x0 3) - 1 : Int32).toNatClampNeg)) →
  DX6_negate_30 h  M6 Q)
set_option maxRecDepth 20000 in
set_option maxHeartbeats 2000000 in
theorem VX6_negate_0 {h : Nat} {x0 : Nat} {M : Mem} {Q : Option Value → Mem → Prop} (H : DX6_negate_0 h x0 M Q) : T (h + 1) mdX6_negate 0 [(0, .ref x0)] [] M Q := by
  unfold DX6_negate_0 at H
  refine xt_aload_n (j := 0) dX6_negate_0 rfl rfl ?_
  obtain ⟨ho1, H⟩ := H
  refine xt_getI dX6_negate_1 (flX6_36 rfl) ft_8_3 ho1.1 ho1.2 ?_
  refine xt_if_le (tgt := 30) dX6_negate_4 (by decide) (fun hc => ?_) (fun hc => ?_)
  · have H := H.1 hc
    exact xt_sub [] rfl (VX6_negate_30 H)
  · have H := H.2 hc
    refine xt_aload_n (j := 0) dX6_negate_7 rfl rfl ?_
    obtain ⟨b2, hb, H⟩ := H
    refine xt_getR dX6_negate_8 (flX6_15 rfl) ft_8_2 ho1.1 ho1.2 hb ?_
    refine xt_aload_n (j := 0) dX6_negate_11 rfl rfl ?_
    refine xt_getI dX6_negate_12 (flX6_36 rfl) ft_8_3 ho1.1 ho1.2 ?_
    refine xt_iconst (v := 1) dX6_negate_15 (by decide) ?_
    refine xt_isub dX6_negate_16 ?_
    refine xt_aload_n (j := 0) dX6_negate_17 rfl rfl ?_
    obtain ⟨b3, hb, H⟩ := H
    refine xt_getR dX6_negate_18 (flX6_15 rfl) ft_8_2 ho1.1 ho1.2 hb ?_
    refine xt_aload_n (j := 0) dX6_negate_21 rfl rfl ?_
    refine xt_getI dX6_negate_22 (flX6_36 rfl) ft_8_3 ho1.1 ho1.2 ?_
    refine xt_iconst (v := 1) dX6_negate_25 (by decide) ?_
    refine xt_isub dX6_negate_26 ?_
    obtain ⟨ho4, H⟩ := H
    obtain ⟨hi, H⟩ := H
    refine xt_lald dX6_negate_27 ho4.1 ho4.2 hi ?_
    refine xt_lneg dX6_negate_28 ?_
    obtain ⟨ho5, H⟩ := H
    obtain ⟨hi, H⟩ := H
    obtain ⟨M6, eM6⟩ : ∃ z, z = wAJ M b2 ((mI M x0 3) - 1 : Int32).toNatClampNeg (-(mAJ M b3 ((mI M x0 3) - 1 : Int32).toNatClampNeg)) := ⟨_, rfl⟩
    have H := H _ eM6
    refine xt_last dX6_negate_29 ho5.1 ho5.2 hi ?_
    have ho1 : ok M6 x0 8 := by rw [eM6]; exact ho1
    rw [← eM6]
    exact xt_sub [] rfl (VX6_negate_30 H)
theorem KX6_negate {h : Nat} {x0 : Nat} {M : Mem} {Q : Option Value → Mem → Prop} (H : DX6_negate_0 h x0 M Q) : E (h + 1) mdX6_negate [.ref x0] M Q := E.of (by decide) (Nat.le_of_ble_eq_true rfl) (fun _ _ _ => trivial) (VX6_negate_0 H)
def DX6_combine_60 (h : Nat) (x0 : Nat) (x1 : Int32) (x2 : Int64) (x4 : Int64) (M : Mem) (Q : Option Value → Mem → Prop) : Prop :=
  E h mdX6_combined [.int x1, .long x4, .long x2] M (fun r M1 => mE M M1 → ∃ r2 : Int64, r = some (.long r2) ∧ E h mdX6_isInRange [.long r2] M1 (fun r M3 => mE M1 M3 → ∃ r4 : Int32, r = some (.int r4) ∧ (¬ r4 = 0 → ok M3 x0 8 ∧ ∃ b6 : Nat, mR M3 x0 2 = some b6 ∧ ok M3 b6 23 ∧ vp_in ((mI M3 x0 3) - 1) (mL M3 b6) ∧ ∀ M8 : Mem, M8 = wAJ M3 b6 ((mI M3 x0 3) - 1 : Int32).toNatClampNeg r2 →
  Q none M8) ∧
  (r4 = 0 → ok M3 x0 8 ∧ ∀ M10 : Mem, M10 = wI M3 x0 4 2 →
  Q none M10)))
set_option maxRecDepth 20000 in
set_option maxHeartbeats 2000000 in
theorem VX6_combine_60 {h : Nat} {x0 : Nat} {x1 : Int32} {x2 : Int64} {x4 : Int64} {M : Mem} {Q : Option Value → Mem → Prop} (H : DX6_combine_60 h x0 x1 x2 x4 M Q) : T (h + 1) mdX6_combine 60 [(0, .ref x0), (1, .int x1), (2, .long x2), (4, .long x4)] [] M Q := by
  unfold DX6_combine_60 at H
  refine xt_iload_n (j := 1) dX6_combine_60 rfl rfl ?_
  refine xt_lload (j := 3) dX6_combine_61 rfl ?_
  refine xt_lload_n (j := 2) dX6_combine_63 rfl rfl ?_
  refine xt_callS (h2 := h) (as := [.int x1, .long x4, .long x2]) (st := []) dX6_combine_64 (mlX6_51 rfl) rfl (by first | decide | (simp [Value.category]; done)) (Nat.le_refl _) H (fun r M1 HH hE => ?_)
  obtain ⟨r2, hr, H⟩ := HH hE
  subst hr
  show T _ _ _ _ [.long r2] _ _
  refine xt_lstore (lv' := [(6, .long r2), (0, .ref x0), (1, .int x1), (2, .long x2), (4, .long x4)]) dX6_combine_67 (by decide) rfl ?_
  refine xt_lload (j := 0) dX6_combine_69 rfl ?_
  refine xt_callS (h2 := h) (as := [.long r2]) (st := []) dX6_combine_71 (mlX6_55 rfl) rfl (by first | decide | (simp [Value.category]; done)) (Nat.le_refl _) H (fun r M3 HH hE => ?_)
  obtain ⟨r4, hr, H⟩ := HH hE
  subst hr
  show T _ _ _ _ [.int r4] _ _
  refine xt_if_ne (tgt := 83) dX6_combine_74 (by decide) (fun hc => ?_) (fun hc => ?_)
  · have H := H.1 hc
    refine xt_aload_n (j := 1) dX6_combine_83 rfl rfl ?_
    obtain ⟨ho5, H⟩ := H
    obtain ⟨b6, hb, H⟩ := H
    refine xt_getR dX6_combine_84 (flX6_15 rfl) ft_8_2 ho5.1 ho5.2 hb ?_
    refine xt_aload_n (j := 1) dX6_combine_87 rfl rfl ?_
    refine xt_getI dX6_combine_88 (flX6_36 rfl) ft_8_3 ho5.1 ho5.2 ?_
    refine xt_iconst (v := 1) dX6_combine_91 (by decide) ?_
    refine xt_isub dX6_combine_92 ?_
    refine xt_lload (j := 0) dX6_combine_93 rfl ?_
    obtain ⟨ho7, H⟩ := H
    obtain ⟨hi, H⟩ := H
    obtain ⟨M8, eM8⟩ : ∃ z, z = wAJ M3 b6 ((mI M3 x0 3) - 1 : Int32).toNatClampNeg r2 := ⟨_, rfl⟩
    have H := H _ eM8
    refine xt_last dX6_combine_95 ho7.1 ho7.2 hi ?_
    have ho5 : ok M8 x0 8 := by rw [eM8]; exact ho5
    rw [← eM8]
    exact xt_return dX6_combine_96 rfl H
  · have H := H.2 hc
    refine xt_aload_n (j := 1) dX6_combine_77 rfl rfl ?_
    refine xt_iconst (v := 2) dX6_combine_78 (by decide) ?_
    obtain ⟨ho9, H⟩ := H
    obtain ⟨M10, eM10⟩ : ∃ z, z = wI M3 x0 4 2 := ⟨_, rfl⟩
    have H := H _ eM10
    refine xt_putI dX6_combine_79 (flX6_33 rfl) ty_8_4 rfl ho9.1 ho9.2 ?_
    have ho9 : ok M10 x0 8 := by rw [eM10]; exact ho9
    rw [← eM10]
    exact xt_return dX6_combine_82 rfl H
def DX6_combine_0 (h : Nat) (x0 : Nat) (x1 : Int32) (M : Mem) (Q : Option Value → Mem → Prop) : Prop :=
  ok M x0 8 ∧ (2 ≤ (mI M x0 3) → ∀ M2 : Mem, M2 = wI M x0 3 ((mI M x0 3) - 1) →
  ∃ b3 : Nat, mR M2 x0 2 = some b3 ∧ ok M2 b3 23 ∧ vp_in (mI M2 x0 3) (mL M2 b3) ∧ ∃ b5 : Nat, mR M2 x0 2 = some b5 ∧ ok M2 b5 23 ∧ vp_in ((mI M2 x0 3) - 1) (mL M2 b5) ∧ (x1 < 8 → DX6_combine_60 h x0 x1 (mAJ M2 b3 (mI M2 x0 3 : Int32).toNatClampNeg) (mAJ M2 b5 ((mI M2 x0 3) - 1 : Int32).toNatClampNeg) M2 Q) ∧
  (¬ (x1 < 8) → (¬ (lg_cmp (mAJ M2 b3 (mI M2 x0 3 : Int32).toNatClampNeg) 0) = 0 → DX6_combine_60 h x0 x1 (mAJ M2 b3 (mI M2 x0 3 : Int32).toNatClampNeg) (mAJ M2 b5 ((mI M2 x0 3) - 1 : Int32).toNatClampNeg) M2 Q) ∧
  ((lg_cmp (mAJ M2 b3 (mI M2 x0 3 : Int32).toNatClampNeg) 0) = 0 → ∀ M7 : Mem, M7 = wI M2 x0 4 1 →
  Q none M7))) ∧
  (¬ (2 ≤ (mI M x0 3)) → Q none M)
set_option maxRecDepth 20000 in
set_option maxHeartbeats 2000000 in
theorem VX6_combine_0 {h : Nat} {x0 : Nat} {x1 : Int32} {M : Mem} {Q : Option Value → Mem → Prop} (H : DX6_combine_0 h x0 x1 M Q) : T (h + 1) mdX6_combine 0 [(0, .ref x0), (1, .int x1)] [] M Q := by
  unfold DX6_combine_0 at H
  refine xt_aload_n (j := 0) dX6_combine_0 rfl rfl ?_
  obtain ⟨ho1, H⟩ := H
  refine xt_getI dX6_combine_1 (flX6_36 rfl) ft_8_3 ho1.1 ho1.2 ?_
  refine xt_iconst (v := 2) dX6_combine_4 (by decide) ?_
  refine xt_icmp_ge (tgt := 9) dX6_combine_5 (by decide) (fun hc => ?_) (fun hc => ?_)
  · have H := H.1 hc
    refine xt_aload_n (j := 0) dX6_combine_9 rfl rfl ?_
    refine xt_dup dX6_combine_10 rfl ?_
    refine xt_getI dX6_combine_11 (flX6_36 rfl) ft_8_3 ho1.1 ho1.2 ?_
    refine xt_iconst (v := 1) dX6_combine_14 (by decide) ?_
    refine xt_isub dX6_combine_15 ?_
    obtain ⟨M2, eM2⟩ : ∃ z, z = wI M x0 3 ((mI M x0 3) - 1) := ⟨_, rfl⟩
    have H := H _ eM2
    refine xt_putI dX6_combine_16 (flX6_36 rfl) ty_8_3 rfl ho1.1 ho1.2 ?_
    have ho1 : ok M2 x0 8 := by rw [eM2]; exact ho1
    rw [← eM2]
    refine xt_aload_n (j := 0) dX6_combine_19 rfl rfl ?_
    obtain ⟨b3, hb, H⟩ := H
    refine xt_getR dX6_combine_20 (flX6_15 rfl) ft_8_2 ho1.1 ho1.2 hb ?_
    refine xt_aload_n (j := 0) dX6_combine_23 rfl rfl ?_
    refine xt_getI dX6_combine_24 (flX6_36 rfl) ft_8_3 ho1.1 ho1.2 ?_
    obtain ⟨ho4, H⟩ := H
    obtain ⟨hi, H⟩ := H
    refine xt_lald dX6_combine_27 ho4.1 ho4.2 hi ?_
    refine xt_lstore_n (lv' := [(2, .long (mAJ M2 b3 (mI M2 x0 3 : Int32).toNatClampNeg)), (0, .ref x0), (1, .int x1)]) dX6_combine_28 rfl (by decide) rfl ?_
    refine xt_aload_n (j := 1) dX6_combine_29 rfl rfl ?_
    obtain ⟨b5, hb, H⟩ := H
    refine xt_getR dX6_combine_30 (flX6_15 rfl) ft_8_2 ho1.1 ho1.2 hb ?_
    refine xt_aload_n (j := 1) dX6_combine_33 rfl rfl ?_
    refine xt_getI dX6_combine_34 (flX6_36 rfl) ft_8_3 ho1.1 ho1.2 ?_
    refine xt_iconst (v := 1) dX6_combine_37 (by decide) ?_
    refine xt_isub dX6_combine_38 ?_
    obtain ⟨ho6, H⟩ := H
    obtain ⟨hi, H⟩ := H
    refine xt_lald dX6_combine_39 ho6.1 ho6.2 hi ?_
    refine xt_lstore (lv' := [(4, .long (mAJ M2 b5 ((mI M2 x0 3) - 1 : Int32).toNatClampNeg)), (2, .long (mAJ M2 b3 (mI M2 x0 3 : Int32).toNatClampNeg)), (0, .ref x0), (1, .int x1)]) dX6_combine_40 (by decide) rfl ?_
    refine xt_iload_n (j := 3) dX6_combine_42 rfl rfl ?_
    refine xt_bipush (v := 8) dX6_combine_43 (by decide) ?_
    refine xt_icmp_lt (tgt := 60) dX6_combine_45 (by decide) (fun hc => ?_) (fun hc => ?_)
    · have H := H.1 hc
      exact xt_sub [2, 3, 1, 0] rfl (VX6_combine_60 H)
    · have H := H.2 hc
      refine xt_lload_n (j := 1) dX6_combine_48 rfl rfl ?_
      refine xt_lconst (v := 0) dX6_combine_49 (by decide) ?_
      refine xt_lcmp dX6_combine_50 ?_
      refine xt_if_ne (tgt := 60) dX6_combine_51 (by decide) (fun hc => ?_) (fun hc => ?_)
      · have H := H.1 hc
        exact xt_sub [2, 3, 1, 0] rfl (VX6_combine_60 H)
      · have H := H.2 hc
        refine xt_aload_n (j := 2) dX6_combine_54 rfl rfl ?_
        refine xt_iconst (v := 1) dX6_combine_55 (by decide) ?_
        obtain ⟨M7, eM7⟩ : ∃ z, z = wI M2 x0 4 1 := ⟨_, rfl⟩
        have H := H _ eM7
        refine xt_putI dX6_combine_56 (flX6_33 rfl) ty_8_4 rfl ho1.1 ho1.2 ?_
        have ho1 : ok M7 x0 8 := by rw [eM7]; exact ho1
        rw [← eM7]
        exact xt_return dX6_combine_59 rfl H
  · have H := H.2 hc
    exact xt_return dX6_combine_8 rfl H
theorem KX6_combine {h : Nat} {x0 : Nat} {x1 : Int32} {M : Mem} {Q : Option Value → Mem → Prop} (H : DX6_combine_0 h x0 x1 M Q) : E (h + 1) mdX6_combine [.ref x0, .int x1] M Q := E.of (by decide) (Nat.le_of_ble_eq_true rfl) (fun _ _ _ => trivial) (VX6_combine_0 H)
def DX6_combined_71 (h : Nat) (s0 : Int64) (M : Mem) (Q : Option Value → Mem → Prop) : Prop :=
  Q (some (.long s0)) M
set_option maxRecDepth 20000 in
set_option maxHeartbeats 2000000 in
theorem VX6_combined_71 {h : Nat} {s0 : Int64} {M : Mem} {Q : Option Value → Mem → Prop} (H : DX6_combined_71 h s0 M Q) : T (h + 1) mdX6_combined 71 [] [.long s0] M Q := by
  unfold DX6_combined_71 at H
  exact xt_lreturn dX6_combined_71 rfl H
def DX6_combined_57 (h : Nat) (s0 : Int64) (M : Mem) (Q : Option Value → Mem → Prop) : Prop :=
  Q (some (.long s0)) M
set_option maxRecDepth 20000 in
set_option maxHeartbeats 2000000 in
theorem VX6_combined_57 {h : Nat} {s0 : Int64} {M : Mem} {Q : Option Value → Mem → Prop} (H : DX6_combined_57 h s0 M Q) : T (h + 1) mdX6_combined 57 [] [.long s0] M Q := by
  unfold DX6_combined_57 at H
  exact xt_lreturn dX6_combined_57 rfl H
def DX6_combined_0 (h : Nat) (x0 : Int32) (x1 : Int64) (x3 : Int64) (M : Mem) (Q : Option Value → Mem → Prop) : Prop :=
  (x0 = 5 → Q (some (.long (x1 + x3))) M) ∧
  (x0 = 6 → Q (some (.long (x1 - x3))) M) ∧
  (x0 = 7 → Q (some (.long (x1 * x3))) M) ∧
  (x0 = 8 → (¬ (lg_cmp x3 0) = 0 → ¬ (x3 : Int64) = 0 ∧ DX6_combined_57 h (x1 / x3) M Q) ∧
  ((lg_cmp x3 0) = 0 → DX6_combined_57 h 0 M Q)) ∧
  (((x0 : Int32).toInt < 5 ∨ 8 < (x0 : Int32).toInt) → (¬ (lg_cmp x3 0) = 0 → ¬ (x3 : Int64) = 0 ∧ DX6_combined_71 h (x1 - x1 / x3 * x3) M Q) ∧
  ((lg_cmp x3 0) = 0 → DX6_combined_71 h 0 M Q))
set_option maxRecDepth 20000 in
set_option maxHeartbeats 2000000 in
theorem VX6_combined_0 {h : Nat} {x0 : Int32} {x1 : Int64} {x3 : Int64} {M : Mem} {Q : Option Value → Mem → Prop} (H : DX6_combined_0 h x0 x1 x3 M Q) : T (h + 1) mdX6_combined 0 [(0, .int x0), (1, .long x1), (3, .long x3)] [] M Q := by
  unfold DX6_combined_0 at H
  refine xt_iload_n (j := 0) dX6_combined_0 rfl rfl ?_
  by_cases hsw : (x0 : Int32).toInt < 5 ∨ 8 < (x0 : Int32).toInt
  · refine xt_tableOut (tgt := 58) dX6_combined_1 hsw (by decide) ?_
    have H := H.2.2.2.2 hsw
    refine xt_lload_n (j := 2) dX6_combined_58 rfl rfl ?_
    refine xt_lconst (v := 0) dX6_combined_59 (by decide) ?_
    refine xt_lcmp dX6_combined_60 ?_
    refine xt_if_ne (tgt := 68) dX6_combined_61 (by decide) (fun hc => ?_) (fun hc => ?_)
    · have H := H.1 hc
      refine xt_lload_n (j := 1) dX6_combined_68 rfl rfl ?_
      refine xt_lload_n (j := 2) dX6_combined_69 rfl rfl ?_
      obtain ⟨hne, H⟩ := H
      refine xt_lrem dX6_combined_70 hne ?_
      exact xt_sub [] rfl (VX6_combined_71 H)
    · have H := H.2 hc
      refine xt_lconst (v := 0) dX6_combined_64 (by decide) ?_
      refine xt_goto (tgt := 71) dX6_combined_65 (by decide) ?_
      exact xt_sub [] rfl (VX6_combined_71 H)
  · have hsw2 : (x0 : Int32).toInt = 5 ∨ (x0 : Int32).toInt = 6 ∨ (x0 : Int32).toInt = 7 ∨ (x0 : Int32).toInt = 8 := by omega
    rcases hsw2 with hv | hv | hv | hv
    · have hx : x0 = 5 := i32_ofInt hv
      have H := H.1 hx
      refine xt_tableIn (tgt := 32) dX6_combined_1 (by omega) (by omega) (by rw [hv]; rfl) (by decide) ?_
      refine xt_lload_n (j := 1) dX6_combined_32 rfl rfl ?_
      refine xt_lload_n (j := 2) dX6_combined_33 rfl rfl ?_
      refine xt_ladd dX6_combined_34 ?_
      exact xt_lreturn dX6_combined_35 rfl H
    · have hx : x0 = 6 := i32_ofInt hv
      have H := H.2.1 hx
      refine xt_tableIn (tgt := 36) dX6_combined_1 (by omega) (by omega) (by rw [hv]; rfl) (by decide) ?_
      refine xt_lload_n (j := 1) dX6_combined_36 rfl rfl ?_
      refine xt_lload_n (j := 2) dX6_combined_37 rfl rfl ?_
      refine xt_lsub dX6_combined_38 ?_
      exact xt_lreturn dX6_combined_39 rfl H
    · have hx : x0 = 7 := i32_ofInt hv
      have H := H.2.2.1 hx
      refine xt_tableIn (tgt := 40) dX6_combined_1 (by omega) (by omega) (by rw [hv]; rfl) (by decide) ?_
      refine xt_lload_n (j := 1) dX6_combined_40 rfl rfl ?_
      refine xt_lload_n (j := 2) dX6_combined_41 rfl rfl ?_
      refine xt_lmul dX6_combined_42 ?_
      exact xt_lreturn dX6_combined_43 rfl H
    · have hx : x0 = 8 := i32_ofInt hv
      have H := H.2.2.2.1 hx
      refine xt_tableIn (tgt := 44) dX6_combined_1 (by omega) (by omega) (by rw [hv]; rfl) (by decide) ?_
      refine xt_lload_n (j := 2) dX6_combined_44 rfl rfl ?_
      refine xt_lconst (v := 0) dX6_combined_45 (by decide) ?_
      refine xt_lcmp dX6_combined_46 ?_
      refine xt_if_ne (tgt := 54) dX6_combined_47 (by decide) (fun hc => ?_) (fun hc => ?_)
      · have H := H.1 hc
        refine xt_lload_n (j := 1) dX6_combined_54 rfl rfl ?_
        refine xt_lload_n (j := 2) dX6_combined_55 rfl rfl ?_
        obtain ⟨hne, H⟩ := H
        refine xt_ldiv dX6_combined_56 hne ?_
        exact xt_sub [] rfl (VX6_combined_57 H)
      · have H := H.2 hc
        refine xt_lconst (v := 0) dX6_combined_50 (by decide) ?_
        refine xt_goto (tgt := 57) dX6_combined_51 (by decide) ?_
        exact xt_sub [] rfl (VX6_combined_57 H)
theorem KX6_combined {h : Nat} {x0 : Int32} {x1 : Int64} {x3 : Int64} {M : Mem} {Q : Option Value → Mem → Prop} (H : DX6_combined_0 h x0 x1 x3 M Q) : E (h + 1) mdX6_combined [.int x0, .long x1, .long x3] M Q := E.of (by decide) (Nat.le_of_ble_eq_true rfl) (fun _ _ _ => trivial) (VX6_combined_0 H)
def DX6_isInRange_21 (h : Nat) (s0 : Int32) (M : Mem) (Q : Option Value → Mem → Prop) : Prop :=
  (s0 = 0 ∨ s0 = 1) ∧ Q (some (.int s0)) M
set_option maxRecDepth 20000 in
set_option maxHeartbeats 2000000 in
theorem VX6_isInRange_21 {h : Nat} {s0 : Int32} {M : Mem} {Q : Option Value → Mem → Prop} (H : DX6_isInRange_21 h s0 M Q) : T (h + 1) mdX6_isInRange 21 [] [.int s0] M Q := by
  unfold DX6_isInRange_21 at H
  exact xt_zreturn dX6_isInRange_21 rfl H.1 H.2
def DX6_isInRange_20 (h : Nat) (M : Mem) (Q : Option Value → Mem → Prop) : Prop :=
  DX6_isInRange_21 h 0 M Q
set_option maxRecDepth 20000 in
set_option maxHeartbeats 2000000 in
theorem VX6_isInRange_20 {h : Nat} {M : Mem} {Q : Option Value → Mem → Prop} (H : DX6_isInRange_20 h  M Q) : T (h + 1) mdX6_isInRange 20 [] [] M Q := by
  unfold DX6_isInRange_20 at H
  refine xt_iconst (v := 0) dX6_isInRange_20 (by decide) ?_
  exact xt_sub [] rfl (VX6_isInRange_21 H)
def DX6_isInRange_0 (h : Nat) (x0 : Int64) (M : Mem) (Q : Option Value → Mem → Prop) : Prop :=
  ((lg_cmp x0 (-1000000000)) < 0 → DX6_isInRange_20 h  M Q) ∧
  (¬ ((lg_cmp x0 (-1000000000)) < 0) → (0 < (lg_cmp x0 1000000000) → DX6_isInRange_20 h  M Q) ∧
  (¬ (0 < (lg_cmp x0 1000000000)) → DX6_isInRange_21 h 1 M Q))
set_option maxRecDepth 20000 in
set_option maxHeartbeats 2000000 in
theorem VX6_isInRange_0 {h : Nat} {x0 : Int64} {M : Mem} {Q : Option Value → Mem → Prop} (H : DX6_isInRange_0 h x0 M Q) : T (h + 1) mdX6_isInRange 0 [(0, .long x0)] [] M Q := by
  unfold DX6_isInRange_0 at H
  refine xt_lload_n (j := 0) dX6_isInRange_0 rfl rfl ?_
  refine xt_ldc2 (v := -1000000000) dX6_isInRange_1 (ctX6_59 rfl) ?_
  refine xt_lcmp dX6_isInRange_4 ?_
  refine xt_if_lt (tgt := 20) dX6_isInRange_5 (by decide) (fun hc => ?_) (fun hc => ?_)
  · have H := H.1 hc
    exact xt_sub [] rfl (VX6_isInRange_20 H)
  · have H := H.2 hc
    refine xt_lload_n (j := 0) dX6_isInRange_8 rfl rfl ?_
    refine xt_ldc2 (v := 1000000000) dX6_isInRange_9 (ctX6_61 rfl) ?_
    refine xt_lcmp dX6_isInRange_12 ?_
    refine xt_if_gt (tgt := 20) dX6_isInRange_13 (by decide) (fun hc => ?_) (fun hc => ?_)
    · have H := H.1 hc
      exact xt_sub [] rfl (VX6_isInRange_20 H)
    · have H := H.2 hc
      refine xt_iconst (v := 1) dX6_isInRange_16 (by decide) ?_
      refine xt_goto (tgt := 21) dX6_isInRange_17 (by decide) ?_
      exact xt_sub [] rfl (VX6_isInRange_21 H)
theorem KX6_isInRange {h : Nat} {x0 : Int64} {M : Mem} {Q : Option Value → Mem → Prop} (H : DX6_isInRange_0 h x0 M Q) : E (h + 1) mdX6_isInRange [.long x0] M Q := E.of (by decide) (Nat.le_of_ble_eq_true rfl) (fun _ _ _ => trivial) (VX6_isInRange_0 H)
def DX6_isSo_101 (h : Nat) (s0 : Int32) (M : Mem) (Q : Option Value → Mem → Prop) : Prop :=
  (s0 = 0 ∨ s0 = 1) ∧ Q (some (.int s0)) M
set_option maxRecDepth 20000 in
set_option maxHeartbeats 2000000 in
theorem VX6_isSo_101 {h : Nat} {s0 : Int32} {M : Mem} {Q : Option Value → Mem → Prop} (H : DX6_isSo_101 h s0 M Q) : T (h + 1) mdX6_isSo 101 [] [.int s0] M Q := by
  unfold DX6_isSo_101 at H
  exact xt_zreturn dX6_isSo_101 rfl H.1 H.2
def DX6_isSo_46 (h : Nat) (s0 : Int32) (M : Mem) (Q : Option Value → Mem → Prop) : Prop :=
  (s0 = 0 ∨ s0 = 1) ∧ Q (some (.int s0)) M
set_option maxRecDepth 20000 in
set_option maxHeartbeats 2000000 in
theorem VX6_isSo_46 {h : Nat} {s0 : Int32} {M : Mem} {Q : Option Value → Mem → Prop} (H : DX6_isSo_46 h s0 M Q) : T (h + 1) mdX6_isSo 46 [] [.int s0] M Q := by
  unfold DX6_isSo_46 at H
  exact xt_zreturn dX6_isSo_46 rfl H.1 H.2
def DX6_isSo_57 (h : Nat) (s0 : Int32) (M : Mem) (Q : Option Value → Mem → Prop) : Prop :=
  (s0 = 0 ∨ s0 = 1) ∧ Q (some (.int s0)) M
set_option maxRecDepth 20000 in
set_option maxHeartbeats 2000000 in
theorem VX6_isSo_57 {h : Nat} {s0 : Int32} {M : Mem} {Q : Option Value → Mem → Prop} (H : DX6_isSo_57 h s0 M Q) : T (h + 1) mdX6_isSo 57 [] [.int s0] M Q := by
  unfold DX6_isSo_57 at H
  exact xt_zreturn dX6_isSo_57 rfl H.1 H.2
def DX6_isSo_68 (h : Nat) (s0 : Int32) (M : Mem) (Q : Option Value → Mem → Prop) : Prop :=
  (s0 = 0 ∨ s0 = 1) ∧ Q (some (.int s0)) M
set_option maxRecDepth 20000 in
set_option maxHeartbeats 2000000 in
theorem VX6_isSo_68 {h : Nat} {s0 : Int32} {M : Mem} {Q : Option Value → Mem → Prop} (H : DX6_isSo_68 h s0 M Q) : T (h + 1) mdX6_isSo 68 [] [.int s0] M Q := by
  unfold DX6_isSo_68 at H
  exact xt_zreturn dX6_isSo_68 rfl H.1 H.2
def DX6_isSo_79 (h : Nat) (s0 : Int32) (M : Mem) (Q : Option Value → Mem → Prop) : Prop :=
  (s0 = 0 ∨ s0 = 1) ∧ Q (some (.int s0)) M
set_option maxRecDepth 20000 in
set_option maxHeartbeats 2000000 in
theorem VX6_isSo_79 {h : Nat} {s0 : Int32} {M : Mem} {Q : Option Value → Mem → Prop} (H : DX6_isSo_79 h s0 M Q) : T (h + 1) mdX6_isSo 79 [] [.int s0] M Q := by
  unfold DX6_isSo_79 at H
  exact xt_zreturn dX6_isSo_79 rfl H.1 H.2
def DX6_isSo_90 (h : Nat) (s0 : Int32) (M : Mem) (Q : Option Value → Mem → Prop) : Prop :=
  (s0 = 0 ∨ s0 = 1) ∧ Q (some (.int s0)) M
set_option maxRecDepth 20000 in
set_option maxHeartbeats 2000000 in
theorem VX6_isSo_90 {h : Nat} {s0 : Int32} {M : Mem} {Q : Option Value → Mem → Prop} (H : DX6_isSo_90 h s0 M Q) : T (h + 1) mdX6_isSo 90 [] [.int s0] M Q := by
  unfold DX6_isSo_90 at H
  exact xt_zreturn dX6_isSo_90 rfl H.1 H.2
def DX6_isSo_0 (h : Nat) (x0 : Int32) (x1 : Int32) (x2 : Int32) (M : Mem) (Q : Option Value → Mem → Prop) : Prop :=
  (x0 = 7 → (¬ x1 = x2 → DX6_isSo_46 h 0 M Q) ∧
  (x1 = x2 → DX6_isSo_46 h 1 M Q)) ∧
  (x0 = 8 → (x1 = x2 → DX6_isSo_57 h 0 M Q) ∧
  (¬ (x1 = x2) → DX6_isSo_57 h 1 M Q)) ∧
  (x0 = 9 → (x2 ≤ x1 → DX6_isSo_68 h 0 M Q) ∧
  (¬ (x2 ≤ x1) → DX6_isSo_68 h 1 M Q)) ∧
  (x0 = 10 → (x2 < x1 → DX6_isSo_79 h 0 M Q) ∧
  (¬ (x2 < x1) → DX6_isSo_79 h 1 M Q)) ∧
  (x0 = 11 → (x1 ≤ x2 → DX6_isSo_90 h 0 M Q) ∧
  (¬ (x1 ≤ x2) → DX6_isSo_90 h 1 M Q)) ∧
  (((x0 : Int32).toInt < 7 ∨ 11 < (x0 : Int32).toInt) → (x1 < x2 → DX6_isSo_101 h 0 M Q) ∧
  (¬ (x1 < x2) → DX6_isSo_101 h 1 M Q))
set_option maxRecDepth 20000 in
set_option maxHeartbeats 2000000 in
theorem VX6_isSo_0 {h : Nat} {x0 : Int32} {x1 : Int32} {x2 : Int32} {M : Mem} {Q : Option Value → Mem → Prop} (H : DX6_isSo_0 h x0 x1 x2 M Q) : T (h + 1) mdX6_isSo 0 [(0, .int x0), (1, .int x1), (2, .int x2)] [] M Q := by
  unfold DX6_isSo_0 at H
  refine xt_iload_n (j := 0) dX6_isSo_0 rfl rfl ?_
  by_cases hsw : (x0 : Int32).toInt < 7 ∨ 11 < (x0 : Int32).toInt
  · refine xt_tableOut (tgt := 91) dX6_isSo_1 hsw (by decide) ?_
    have H := H.2.2.2.2.2 hsw
    refine xt_iload_n (j := 1) dX6_isSo_91 rfl rfl ?_
    refine xt_iload_n (j := 2) dX6_isSo_92 rfl rfl ?_
    refine xt_icmp_lt (tgt := 100) dX6_isSo_93 (by decide) (fun hc => ?_) (fun hc => ?_)
    · have H := H.1 hc
      refine xt_iconst (v := 0) dX6_isSo_100 (by decide) ?_
      exact xt_sub [] rfl (VX6_isSo_101 H)
    · have H := H.2 hc
      refine xt_iconst (v := 1) dX6_isSo_96 (by decide) ?_
      refine xt_goto (tgt := 101) dX6_isSo_97 (by decide) ?_
      exact xt_sub [] rfl (VX6_isSo_101 H)
  · have hsw2 : (x0 : Int32).toInt = 7 ∨ (x0 : Int32).toInt = 8 ∨ (x0 : Int32).toInt = 9 ∨ (x0 : Int32).toInt = 10 ∨ (x0 : Int32).toInt = 11 := by omega
    rcases hsw2 with hv | hv | hv | hv | hv
    · have hx : x0 = 7 := i32_ofInt hv
      have H := H.1 hx
      refine xt_tableIn (tgt := 36) dX6_isSo_1 (by omega) (by omega) (by rw [hv]; rfl) (by decide) ?_
      refine xt_iload_n (j := 1) dX6_isSo_36 rfl rfl ?_
      refine xt_iload_n (j := 2) dX6_isSo_37 rfl rfl ?_
      refine xt_icmp_ne (tgt := 45) dX6_isSo_38 (by decide) (fun hc => ?_) (fun hc => ?_)
      · have H := H.1 hc
        refine xt_iconst (v := 0) dX6_isSo_45 (by decide) ?_
        exact xt_sub [] rfl (VX6_isSo_46 H)
      · have H := H.2 hc
        refine xt_iconst (v := 1) dX6_isSo_41 (by decide) ?_
        refine xt_goto (tgt := 46) dX6_isSo_42 (by decide) ?_
        exact xt_sub [] rfl (VX6_isSo_46 H)
    · have hx : x0 = 8 := i32_ofInt hv
      have H := H.2.1 hx
      refine xt_tableIn (tgt := 47) dX6_isSo_1 (by omega) (by omega) (by rw [hv]; rfl) (by decide) ?_
      refine xt_iload_n (j := 1) dX6_isSo_47 rfl rfl ?_
      refine xt_iload_n (j := 2) dX6_isSo_48 rfl rfl ?_
      refine xt_icmp_eq (tgt := 56) dX6_isSo_49 (by decide) (fun hc => ?_) (fun hc => ?_)
      · have H := H.1 hc
        refine xt_iconst (v := 0) dX6_isSo_56 (by decide) ?_
        exact xt_sub [] rfl (VX6_isSo_57 H)
      · have H := H.2 hc
        refine xt_iconst (v := 1) dX6_isSo_52 (by decide) ?_
        refine xt_goto (tgt := 57) dX6_isSo_53 (by decide) ?_
        exact xt_sub [] rfl (VX6_isSo_57 H)
    · have hx : x0 = 9 := i32_ofInt hv
      have H := H.2.2.1 hx
      refine xt_tableIn (tgt := 58) dX6_isSo_1 (by omega) (by omega) (by rw [hv]; rfl) (by decide) ?_
      refine xt_iload_n (j := 1) dX6_isSo_58 rfl rfl ?_
      refine xt_iload_n (j := 2) dX6_isSo_59 rfl rfl ?_
      refine xt_icmp_ge (tgt := 67) dX6_isSo_60 (by decide) (fun hc => ?_) (fun hc => ?_)
      · have H := H.1 hc
        refine xt_iconst (v := 0) dX6_isSo_67 (by decide) ?_
        exact xt_sub [] rfl (VX6_isSo_68 H)
      · have H := H.2 hc
        refine xt_iconst (v := 1) dX6_isSo_63 (by decide) ?_
        refine xt_goto (tgt := 68) dX6_isSo_64 (by decide) ?_
        exact xt_sub [] rfl (VX6_isSo_68 H)
    · have hx : x0 = 10 := i32_ofInt hv
      have H := H.2.2.2.1 hx
      refine xt_tableIn (tgt := 69) dX6_isSo_1 (by omega) (by omega) (by rw [hv]; rfl) (by decide) ?_
      refine xt_iload_n (j := 1) dX6_isSo_69 rfl rfl ?_
      refine xt_iload_n (j := 2) dX6_isSo_70 rfl rfl ?_
      refine xt_icmp_gt (tgt := 78) dX6_isSo_71 (by decide) (fun hc => ?_) (fun hc => ?_)
      · have H := H.1 hc
        refine xt_iconst (v := 0) dX6_isSo_78 (by decide) ?_
        exact xt_sub [] rfl (VX6_isSo_79 H)
      · have H := H.2 hc
        refine xt_iconst (v := 1) dX6_isSo_74 (by decide) ?_
        refine xt_goto (tgt := 79) dX6_isSo_75 (by decide) ?_
        exact xt_sub [] rfl (VX6_isSo_79 H)
    · have hx : x0 = 11 := i32_ofInt hv
      have H := H.2.2.2.2.1 hx
      refine xt_tableIn (tgt := 80) dX6_isSo_1 (by omega) (by omega) (by rw [hv]; rfl) (by decide) ?_
      refine xt_iload_n (j := 1) dX6_isSo_80 rfl rfl ?_
      refine xt_iload_n (j := 2) dX6_isSo_81 rfl rfl ?_
      refine xt_icmp_le (tgt := 89) dX6_isSo_82 (by decide) (fun hc => ?_) (fun hc => ?_)
      · have H := H.1 hc
        refine xt_iconst (v := 0) dX6_isSo_89 (by decide) ?_
        exact xt_sub [] rfl (VX6_isSo_90 H)
      · have H := H.2 hc
        refine xt_iconst (v := 1) dX6_isSo_85 (by decide) ?_
        refine xt_goto (tgt := 90) dX6_isSo_86 (by decide) ?_
        exact xt_sub [] rfl (VX6_isSo_90 H)
theorem KX6_isSo {h : Nat} {x0 : Int32} {x1 : Int32} {x2 : Int32} {M : Mem} {Q : Option Value → Mem → Prop} (H : DX6_isSo_0 h x0 x1 x2 M Q) : E (h + 1) mdX6_isSo [.int x0, .int x1, .int x2] M Q := E.of (by decide) (Nat.le_of_ble_eq_true rfl) (fun _ _ _ => trivial) (VX6_isSo_0 H)
def DX7_begin_52 (h : Nat) (x0 : Nat) (M : Mem) (Q : Option Value → Mem → Prop) : Prop :=
  ok M x0 9 ∧ ∀ M2 : Mem, M2 = wI M x0 7 0 →
  ∀ M3 : Mem, M3 = wI M2 x0 8 0 →
  ∀ M4 : Mem, M4 = wI M3 x0 12 0 →
  ∀ M5 : Mem, M5 = wI M4 x0 13 0 →
  E h mdX7_advance [.ref x0] M5 (fun r M6 => mE M5 M6 → r = none ∧ Q none M6)
set_option maxRecDepth 20000 in
set_option maxHeartbeats 2000000 in
theorem VX7_begin_52 {h : Nat} {x0 : Nat} {M : Mem} {Q : Option Value → Mem → Prop} (H : DX7_begin_52 h x0 M Q) : T (h + 1) mdX7_begin 52 [(0, .ref x0)] [] M Q := by
  unfold DX7_begin_52 at H
  refine xt_aload_n (j := 0) dX7_begin_52 rfl rfl ?_
  refine xt_iconst (v := 0) dX7_begin_53 (by decide) ?_
  obtain ⟨ho1, H⟩ := H
  obtain ⟨M2, eM2⟩ : ∃ z, z = wI M x0 7 0 := ⟨_, rfl⟩
  have H := H _ eM2
  refine xt_putI dX7_begin_54 (flX7_61 rfl) ty_9_7 rfl ho1.1 ho1.2 ?_
  have ho1 : ok M2 x0 9 := by rw [eM2]; exact ho1
  rw [← eM2]
  refine xt_aload_n (j := 0) dX7_begin_57 rfl rfl ?_
  refine xt_iconst (v := 0) dX7_begin_58 (by decide) ?_
  obtain ⟨M3, eM3⟩ : ∃ z, z = wI M2 x0 8 0 := ⟨_, rfl⟩
  have H := H _ eM3
  refine xt_putI dX7_begin_59 (flX7_64 rfl) ty_9_8 rfl ho1.1 ho1.2 ?_
  have ho1 : ok M3 x0 9 := by rw [eM3]; exact ho1
  rw [← eM3]
  refine xt_aload_n (j := 0) dX7_begin_62 rfl rfl ?_
  refine xt_iconst (v := 0) dX7_begin_63 (by decide) ?_
  obtain ⟨M4, eM4⟩ : ∃ z, z = wI M3 x0 12 0 := ⟨_, rfl⟩
  have H := H _ eM4
  refine xt_putI dX7_begin_64 (flX7_67 rfl) ty_9_12 rfl ho1.1 ho1.2 ?_
  have ho1 : ok M4 x0 9 := by rw [eM4]; exact ho1
  rw [← eM4]
  refine xt_aload_n (j := 0) dX7_begin_67 rfl rfl ?_
  refine xt_iconst (v := 0) dX7_begin_68 (by decide) ?_
  obtain ⟨M5, eM5⟩ : ∃ z, z = wI M4 x0 13 0 := ⟨_, rfl⟩
  have H := H _ eM5
  refine xt_putI dX7_begin_69 (flX7_70 rfl) ty_9_13 rfl ho1.1 ho1.2 ?_
  have ho1 : ok M5 x0 9 := by rw [eM5]; exact ho1
  rw [← eM5]
  refine xt_aload_n (j := 0) dX7_begin_72 rfl rfl ?_
  refine xt_callV (h2 := h) (as := []) (st := []) dX7_begin_73 (mlX7_73 rfl) rfl ho1.1 ⟨by rw [ho1.2]; rfl, by rw [ho1.2]; decide⟩ (by first | decide | (simp [Value.category]; done)) (Nat.le_refl _) H (fun r M6 HH hE => ?_)
  obtain ⟨hr, H⟩ := HH hE
  subst hr
  have ho1 := ok_E ho1 hE
  show T _ _ _ _ [] _ _
  exact xt_return dX7_begin_76 rfl H
def DX7_begin_22 (h : Nat) (x0 : Nat) (x2 : Int32) (x3 : Int32) (M : Mem) (Q : Option Value → Mem → Prop) : Prop :=
  ok M x0 9 ∧ ∃ b2 : Nat, mR M x0 4 = some b2 ∧ ok M b2 21 ∧ ((Int32.ofNat (mL M b2)) ≤ x3 → DX7_begin_52 h x0 M Q) ∧
  (¬ ((Int32.ofNat (mL M b2)) ≤ x3) → (x2 = 1 → DX7_begin_52 h x0 M Q) ∧
  (¬ (x2 = 1) → (x2 = 0 → DX7_begin_52 h x0 M Q) ∧
  (¬ (x2 = 0) → E h mdX7_cut [.ref x0, .int x3] M (fun r M4 => mE M M4 → ∃ r5 : Int32, r = some (.int r5) ∧ T (h + 1) mdX7_begin 22 [(0, .ref x0), (2, .int r5), (3, .int (x3 + 1))] [] M4 Q))))
set_option maxRecDepth 20000 in
set_option maxHeartbeats 2000000 in
theorem VX7_begin_22 {h : Nat} {x0 : Nat} {x2 : Int32} {x3 : Int32} {M : Mem} {Q : Option Value → Mem → Prop} (H : DX7_begin_22 h x0 x2 x3 M Q) : T (h + 1) mdX7_begin 22 [(0, .ref x0), (2, .int x2), (3, .int x3)] [] M Q := by
  unfold DX7_begin_22 at H
  refine xt_iload_n (j := 2) dX7_begin_22 rfl rfl ?_
  refine xt_aload_n (j := 0) dX7_begin_23 rfl rfl ?_
  obtain ⟨ho1, H⟩ := H
  obtain ⟨b2, hb, H⟩ := H
  refine xt_getR dX7_begin_24 (flX7_9 rfl) ft_9_4 ho1.1 ho1.2 hb ?_
  obtain ⟨ho3, H⟩ := H
  refine xt_alen dX7_begin_27 ho3.1 (Or.inr (Or.inl ho3.2)) ?_
  refine xt_icmp_ge (tgt := 52) dX7_begin_28 (by decide) (fun hc => ?_) (fun hc => ?_)
  · have H := H.1 hc
    exact xt_sub [0] rfl (VX7_begin_52 H)
  · have H := H.2 hc
    refine xt_iload_n (j := 1) dX7_begin_31 rfl rfl ?_
    refine xt_iconst (v := 1) dX7_begin_32 (by decide) ?_
    refine xt_icmp_eq (tgt := 52) dX7_begin_33 (by decide) (fun hc => ?_) (fun hc => ?_)
    · have H := H.1 hc
      exact xt_sub [0] rfl (VX7_begin_52 H)
    · have H := H.2 hc
      refine xt_iload_n (j := 1) dX7_begin_36 rfl rfl ?_
      refine xt_if_eq (tgt := 52) dX7_begin_37 (by decide) (fun hc => ?_) (fun hc => ?_)
      · have H := H.1 hc
        exact xt_sub [0] rfl (VX7_begin_52 H)
      · have H := H.2 hc
        refine xt_aload_n (j := 0) dX7_begin_40 rfl rfl ?_
        refine xt_iload_n (j := 2) dX7_begin_41 rfl rfl ?_
        refine xt_callV (h2 := h) (as := [.int x3]) (st := []) dX7_begin_42 (mlX7_57 rfl) rfl ho1.1 ⟨by rw [ho1.2]; rfl, by rw [ho1.2]; decide⟩ (by first | decide | (simp [Value.category]; done)) (Nat.le_refl _) H (fun r M4 HH hE => ?_)
        obtain ⟨r5, hr, H⟩ := HH hE
        subst hr
        have ho1 := ok_E ho1 hE
        show T _ _ _ _ [.int r5] _ _
        refine xt_istore_n (lv' := [(2, .int r5), (0, .ref x0), (3, .int x3)]) dX7_begin_45 rfl (by decide) rfl ?_
        refine xt_iinc (j := 2) (v := x3 + 1) (lv' := [(3, .int (x3 + 1)), (2, .int r5), (0, .ref x0)]) dX7_begin_46 rfl (by rfl) (by decide) rfl ?_
        refine xt_goto (tgt := 22) dX7_begin_49 (by decide) ?_
        exact xt_sub (lv' := [(0, .ref x0), (2, .int r5), (3, .int (x3 + 1))]) [2, 1, 0] rfl H
def DX7_begin_0 (h : Nat) (x0 : Nat) (x1 : Int32) (M : Mem) (Q : Option Value → Mem → Prop) : Prop :=
  ok M x0 9 ∧ ∃ b2 : Nat, mR M x0 0 = some b2 ∧ ok M b2 20 ∧ ∀ M4 : Mem, M4 = wI M x0 2 (if (Int32.ofNat (mL M b2)) < x1 then (Int32.ofNat (mL M b2)) else x1) →
  ∀ M5 : Mem, M5 = wI M4 x0 3 0 →
  T (h + 1) mdX7_begin 22 [(0, .ref x0), (2, .int (-1)), (3, .int 0)] [] M5 Q
set_option maxRecDepth 20000 in
set_option maxHeartbeats 2000000 in
theorem VX7_begin_0 {h : Nat} {x0 : Nat} {x1 : Int32} {M : Mem} {Q : Option Value → Mem → Prop} (H : DX7_begin_0 h x0 x1 M Q) : T (h + 1) mdX7_begin 0 [(0, .ref x0), (1, .int x1)] [] M Q := by
  unfold DX7_begin_0 at H
  refine xt_aload_n (j := 0) dX7_begin_0 rfl rfl ?_
  refine xt_iload_n (j := 1) dX7_begin_1 rfl rfl ?_
  refine xt_aload_n (j := 0) dX7_begin_2 rfl rfl ?_
  obtain ⟨ho1, H⟩ := H
  obtain ⟨b2, hb, H⟩ := H
  refine xt_getR dX7_begin_3 (flX7_22 rfl) ft_9_0 ho1.1 ho1.2 hb ?_
  obtain ⟨ho3, H⟩ := H
  refine xt_alen dX7_begin_6 ho3.1 (Or.inl ho3.2) ?_
  refine xt_mmin dX7_begin_7 (mmX7_45 rfl) (Nat.succ_le_succ (Nat.zero_le _)) (by first | decide | (simp [Value.category]; done)) ?_
  obtain ⟨M4, eM4⟩ : ∃ z, z = wI M x0 2 (if (Int32.ofNat (mL M b2)) < x1 then (Int32.ofNat (mL M b2)) else x1) := ⟨_, rfl⟩
  have H := H _ eM4
  refine xt_putI dX7_begin_10 (flX7_51 rfl) ty_9_2 rfl ho1.1 ho1.2 ?_
  have ho1 : ok M4 x0 9 := by rw [eM4]; exact ho1
  rw [← eM4]
  refine xt_aload_n (j := 0) dX7_begin_13 rfl rfl ?_
  refine xt_iconst (v := 0) dX7_begin_14 (by decide) ?_
  obtain ⟨M5, eM5⟩ : ∃ z, z = wI M4 x0 3 0 := ⟨_, rfl⟩
  have H := H _ eM5
  refine xt_putI dX7_begin_15 (flX7_54 rfl) ty_9_3 rfl ho1.1 ho1.2 ?_
  have ho1 : ok M5 x0 9 := by rw [eM5]; exact ho1
  rw [← eM5]
  refine xt_iconst (v := -1) dX7_begin_18 (by decide) ?_
  refine xt_istore_n (lv' := [(2, .int (-1)), (0, .ref x0), (1, .int x1)]) dX7_begin_19 rfl (by decide) rfl ?_
  refine xt_iconst (v := 0) dX7_begin_20 (by decide) ?_
  refine xt_istore_n (lv' := [(3, .int 0), (2, .int (-1)), (0, .ref x0), (1, .int x1)]) dX7_begin_21 rfl (by decide) rfl ?_
  exact xt_sub (lv' := [(0, .ref x0), (2, .int (-1)), (3, .int 0)]) [2, 1, 0] rfl H
theorem KX7_begin {h : Nat} {x0 : Nat} {x1 : Int32} {M : Mem} {Q : Option Value → Mem → Prop} (H : DX7_begin_0 h x0 x1 M Q) : E (h + 1) mdX7_begin [.ref x0, .int x1] M Q := E.of (by decide) (Nat.le_of_ble_eq_true rfl) (fun _ _ _ => trivial) (VX7_begin_0 H)
def DX7_cut_131 (h : Nat) (x0 : Nat) (x1 : Int32) (M : Mem) (Q : Option Value → Mem → Prop) : Prop :=
  ok M x0 9 ∧ ∃ b2 : Nat, mR M x0 4 = some b2 ∧ ok M b2 21 ∧ vp_in x1 (mL M b2) ∧ Q (some (.int (mAI M b2 (x1 : Int32).toNatClampNeg))) M
set_option maxRecDepth 20000 in
set_option maxHeartbeats 2000000 in
theorem VX7_cut_131 {h : Nat} {x0 : Nat} {x1 : Int32} {M : Mem} {Q : Option Value → Mem → Prop} (H : DX7_cut_131 h x0 x1 M Q) : T (h + 1) mdX7_cut 131 [(0, .ref x0), (1, .int x1)] [] M Q := by
  unfold DX7_cut_131 at H
  refine xt_aload_n (j := 0) dX7_cut_131 rfl rfl ?_
  obtain ⟨ho1, H⟩ := H
  obtain ⟨b2, hb, H⟩ := H
  refine xt_getR dX7_cut_132 (flX7_9 rfl) ft_9_4 ho1.1 ho1.2 hb ?_
  refine xt_iload_n (j := 1) dX7_cut_135 rfl rfl ?_
  obtain ⟨ho3, H⟩ := H
  obtain ⟨hi, H⟩ := H
  refine xt_iald dX7_cut_136 ho3.1 ho3.2 hi ?_
  exact xt_ireturn dX7_cut_137 rfl H
def DX7_cut_50 (h : Nat) (x0 : Nat) (x1 : Int32) (M : Mem) (Q : Option Value → Mem → Prop) : Prop :=
  ok M x0 9 ∧ ∃ b2 : Nat, mR M x0 5 = some b2 ∧ ok M b2 21 ∧ vp_in x1 (mL M b2) ∧ ∀ M4 : Mem, M4 = wAI M b2 (x1 : Int32).toNatClampNeg (mI M x0 3) →
  E h mdX7_byteAt [.ref x0, .int (mI M4 x0 3)] M4 (fun r M5 => mE M4 M5 → ∃ r6 : Int32, r = some (.int r6) ∧ ((mI M5 x0 3) < (mI M5 x0 2) → E h mdX7_isLetter [.int r6] M5 (fun r M7 => mE M5 M7 → ∃ r8 : Int32, r = some (.int r8) ∧ (r8 = 0 → E h mdX7_isFigure [.int r6] M7 (fun r M9 => mE M7 M9 → ∃ r10 : Int32, r = some (.int r10) ∧ (r10 = 0 → ∃ b11 : Nat, mR M9 x0 4 = some b11 ∧ E h mdX7_signKind [.ref x0, .int r6] M9 (fun r M12 => mE M9 M12 → ∃ r13 : Int32, r = some (.int r13) ∧ ok M12 b11 21 ∧ vp_in x1 (mL M12 b11) ∧ ∀ M15 : Mem, M15 = wAI M12 b11 (x1 : Int32).toNatClampNeg r13 →
  DX7_cut_131 h x0 x1 M15 Q)) ∧
  (¬ (r10 = 0) → E h mdX7_cutNumber [.ref x0, .int x1] M9 (fun r M16 => mE M9 M16 → r = none ∧ DX7_cut_131 h x0 x1 M16 Q)))) ∧
  (¬ (r8 = 0) → E h mdX7_cutWord [.ref x0, .int x1] M7 (fun r M17 => mE M7 M17 → r = none ∧ DX7_cut_131 h x0 x1 M17 Q)))) ∧
  (¬ ((mI M5 x0 3) < (mI M5 x0 2)) → ∃ b18 : Nat, mR M5 x0 4 = some b18 ∧ ok M5 b18 21 ∧ vp_in x1 (mL M5 b18) ∧ ∀ M20 : Mem, M20 = wAI M5 b18 (x1 : Int32).toNatClampNeg 1 →
  DX7_cut_131 h x0 x1 M20 Q))
set_option maxRecDepth 20000 in
set_option maxHeartbeats 2000000 in
theorem VX7_cut_50 {h : Nat} {x0 : Nat} {x1 : Int32} {M : Mem} {Q : Option Value → Mem → Prop} (H : DX7_cut_50 h x0 x1 M Q) : T (h + 1) mdX7_cut 50 [(0, .ref x0), (1, .int x1)] [] M Q := by
  unfold DX7_cut_50 at H
  refine xt_aload_n (j := 0) dX7_cut_50 rfl rfl ?_
  obtain ⟨ho1, H⟩ := H
  obtain ⟨b2, hb, H⟩ := H
  refine xt_getR dX7_cut_51 (flX7_15 rfl) ft_9_5 ho1.1 ho1.2 hb ?_
  refine xt_iload_n (j := 1) dX7_cut_54 rfl rfl ?_
  refine xt_aload_n (j := 0) dX7_cut_55 rfl rfl ?_
  refine xt_getI dX7_cut_56 (flX7_54 rfl) ft_9_3 ho1.1 ho1.2 ?_
  obtain ⟨ho3, H⟩ := H
  obtain ⟨hi, H⟩ := H
  obtain ⟨M4, eM4⟩ : ∃ z, z = wAI M b2 (x1 : Int32).toNatClampNeg (mI M x0 3) := ⟨_, rfl⟩
  have H := H _ eM4
  refine xt_iast dX7_cut_59 ho3.1 ho3.2 hi ?_
  have ho1 : ok M4 x0 9 := by rw [eM4]; exact ho1
  rw [← eM4]
  refine xt_aload_n (j := 0) dX7_cut_60 rfl rfl ?_
  refine xt_aload_n (j := 0) dX7_cut_61 rfl rfl ?_
  refine xt_getI dX7_cut_62 (flX7_54 rfl) ft_9_3 ho1.1 ho1.2 ?_
  refine xt_callV (h2 := h) (as := [.int (mI M4 x0 3)]) (st := []) dX7_cut_65 (mlX7_76 rfl) rfl ho1.1 ⟨by rw [ho1.2]; rfl, by rw [ho1.2]; decide⟩ (by first | decide | (simp [Value.category]; done)) (Nat.le_refl _) H (fun r M5 HH hE => ?_)
  obtain ⟨r6, hr, H⟩ := HH hE
  subst hr
  have ho1 := ok_E ho1 hE
  show T _ _ _ _ [.int r6] _ _
  refine xt_istore_n (lv' := [(2, .int r6), (0, .ref x0), (1, .int x1)]) dX7_cut_68 rfl (by decide) rfl ?_
  refine xt_aload_n (j := 1) dX7_cut_69 rfl rfl ?_
  refine xt_getI dX7_cut_70 (flX7_54 rfl) ft_9_3 ho1.1 ho1.2 ?_
  refine xt_aload_n (j := 1) dX7_cut_73 rfl rfl ?_
  refine xt_getI dX7_cut_74 (flX7_51 rfl) ft_9_2 ho1.1 ho1.2 ?_
  refine xt_icmp_lt (tgt := 90) dX7_cut_77 (by decide) (fun hc => ?_) (fun hc => ?_)
  · have H := H.1 hc
    refine xt_iload_n (j := 0) dX7_cut_90 rfl rfl ?_
    refine xt_callS (h2 := h) (as := [.int r6]) (st := []) dX7_cut_91 (mlX7_79 rfl) rfl (by first | decide | (simp [Value.category]; done)) (Nat.le_refl _) H (fun r M7 HH hE => ?_)
    obtain ⟨r8, hr, H⟩ := HH hE
    subst hr
    have ho1 := ok_E ho1 hE
    show T _ _ _ _ [.int r8] _ _
    refine xt_if_eq (tgt := 105) dX7_cut_94 (by decide) (fun hc => ?_) (fun hc => ?_)
    · have H := H.1 hc
      refine xt_iload_n (j := 0) dX7_cut_105 rfl rfl ?_
      refine xt_callS (h2 := h) (as := [.int r6]) (st := []) dX7_cut_106 (mlX7_87 rfl) rfl (by first | decide | (simp [Value.category]; done)) (Nat.le_refl _) H (fun r M9 HH hE => ?_)
      obtain ⟨r10, hr, H⟩ := HH hE
      subst hr
      have ho1 := ok_E ho1 hE
      show T _ _ _ _ [.int r10] _ _
      refine xt_if_eq (tgt := 120) dX7_cut_109 (by decide) (fun hc => ?_) (fun hc => ?_)
      · have H := H.1 hc
        refine xt_aload_n (j := 1) dX7_cut_120 rfl rfl ?_
        obtain ⟨b11, hb, H⟩ := H
        refine xt_getR dX7_cut_121 (flX7_9 rfl) ft_9_4 ho1.1 ho1.2 hb ?_
        refine xt_iload_n (j := 2) dX7_cut_124 rfl rfl ?_
        refine xt_aload_n (j := 1) dX7_cut_125 rfl rfl ?_
        refine xt_iload_n (j := 0) dX7_cut_126 rfl rfl ?_
        refine xt_callV (h2 := h) (as := [.int r6]) (st := [.int x1, .ref b11]) dX7_cut_127 (mlX7_93 rfl) rfl ho1.1 ⟨by rw [ho1.2]; rfl, by rw [ho1.2]; decide⟩ (by first | decide | (simp [Value.category]; done)) (Nat.le_refl _) H (fun r M12 HH hE => ?_)
        obtain ⟨r13, hr, H⟩ := HH hE
        subst hr
        have ho1 := ok_E ho1 hE
        show T _ _ _ _ [.int r13, .int x1, .ref b11] _ _
        obtain ⟨ho14, H⟩ := H
        obtain ⟨hi, H⟩ := H
        obtain ⟨M15, eM15⟩ : ∃ z, z = wAI M12 b11 (x1 : Int32).toNatClampNeg r13 := ⟨_, rfl⟩
        have H := H _ eM15
        refine xt_iast dX7_cut_130 ho14.1 ho14.2 hi ?_
        have ho1 : ok M15 x0 9 := by rw [eM15]; exact ho1
        rw [← eM15]
        exact xt_sub [1, 2] rfl (VX7_cut_131 H)
      · have H := H.2 hc
        refine xt_aload_n (j := 1) dX7_cut_112 rfl rfl ?_
        refine xt_iload_n (j := 2) dX7_cut_113 rfl rfl ?_
        refine xt_callV (h2 := h) (as := [.int x1]) (st := []) dX7_cut_114 (mlX7_90 rfl) rfl ho1.1 ⟨by rw [ho1.2]; rfl, by rw [ho1.2]; decide⟩ (by first | decide | (simp [Value.category]; done)) (Nat.le_refl _) H (fun r M16 HH hE => ?_)
        obtain ⟨hr, H⟩ := HH hE
        subst hr
        have ho1 := ok_E ho1 hE
        show T _ _ _ _ [] _ _
        refine xt_goto (tgt := 131) dX7_cut_117 (by decide) ?_
        exact xt_sub [1, 2] rfl (VX7_cut_131 H)
    · have H := H.2 hc
      refine xt_aload_n (j := 1) dX7_cut_97 rfl rfl ?_
      refine xt_iload_n (j := 2) dX7_cut_98 rfl rfl ?_
      refine xt_callV (h2 := h) (as := [.int x1]) (st := []) dX7_cut_99 (mlX7_83 rfl) rfl ho1.1 ⟨by rw [ho1.2]; rfl, by rw [ho1.2]; decide⟩ (by first | decide | (simp [Value.category]; done)) (Nat.le_refl _) H (fun r M17 HH hE => ?_)
      obtain ⟨hr, H⟩ := HH hE
      subst hr
      have ho1 := ok_E ho1 hE
      show T _ _ _ _ [] _ _
      refine xt_goto (tgt := 131) dX7_cut_102 (by decide) ?_
      exact xt_sub [1, 2] rfl (VX7_cut_131 H)
  · have H := H.2 hc
    refine xt_aload_n (j := 1) dX7_cut_80 rfl rfl ?_
    obtain ⟨b18, hb, H⟩ := H
    refine xt_getR dX7_cut_81 (flX7_9 rfl) ft_9_4 ho1.1 ho1.2 hb ?_
    refine xt_iload_n (j := 2) dX7_cut_84 rfl rfl ?_
    refine xt_iconst (v := 1) dX7_cut_85 (by decide) ?_
    obtain ⟨ho19, H⟩ := H
    obtain ⟨hi, H⟩ := H
    obtain ⟨M20, eM20⟩ : ∃ z, z = wAI M5 b18 (x1 : Int32).toNatClampNeg 1 := ⟨_, rfl⟩
    have H := H _ eM20
    refine xt_iast dX7_cut_86 ho19.1 ho19.2 hi ?_
    have ho1 : ok M20 x0 9 := by rw [eM20]; exact ho1
    rw [← eM20]
    refine xt_goto (tgt := 131) dX7_cut_87 (by decide) ?_
    exact xt_sub [1, 2] rfl (VX7_cut_131 H)
def DX7_cut_37 (h : Nat) (x0 : Nat) (x1 : Int32) (M : Mem) (Q : Option Value → Mem → Prop) : Prop :=
  ok M x0 9 ∧ ∀ M2 : Mem, M2 = wI M x0 3 ((mI M x0 3) + 1) →
  T (h + 1) mdX7_cut 0 [(0, .ref x0), (1, .int x1)] [] M2 Q
set_option maxRecDepth 20000 in
set_option maxHeartbeats 2000000 in
theorem VX7_cut_37 {h : Nat} {x0 : Nat} {x1 : Int32} {M : Mem} {Q : Option Value → Mem → Prop} (H : DX7_cut_37 h x0 x1 M Q) : T (h + 1) mdX7_cut 37 [(0, .ref x0), (1, .int x1)] [] M Q := by
  unfold DX7_cut_37 at H
  refine xt_aload_n (j := 0) dX7_cut_37 rfl rfl ?_
  refine xt_dup dX7_cut_38 rfl ?_
  obtain ⟨ho1, H⟩ := H
  refine xt_getI dX7_cut_39 (flX7_54 rfl) ft_9_3 ho1.1 ho1.2 ?_
  refine xt_iconst (v := 1) dX7_cut_42 (by decide) ?_
  refine xt_iadd dX7_cut_43 ?_
  obtain ⟨M2, eM2⟩ : ∃ z, z = wI M x0 3 ((mI M x0 3) + 1) := ⟨_, rfl⟩
  have H := H _ eM2
  refine xt_putI dX7_cut_44 (flX7_54 rfl) ty_9_3 rfl ho1.1 ho1.2 ?_
  have ho1 : ok M2 x0 9 := by rw [eM2]; exact ho1
  rw [← eM2]
  refine xt_goto (tgt := 0) dX7_cut_47 (by decide) ?_
  exact xt_sub (lv' := [(0, .ref x0), (1, .int x1)]) [0, 1] rfl H
def DX7_cut_0 (h : Nat) (x0 : Nat) (x1 : Int32) (M : Mem) (Q : Option Value → Mem → Prop) : Prop :=
  ok M x0 9 ∧ ((mI M x0 2) ≤ (mI M x0 3) → DX7_cut_50 h x0 x1 M Q) ∧
  (¬ ((mI M x0 2) ≤ (mI M x0 3)) → E h mdX7_byteAt [.ref x0, .int (mI M x0 3)] M (fun r M2 => mE M M2 → ∃ r3 : Int32, r = some (.int r3) ∧ (r3 = 32 → DX7_cut_37 h x0 x1 M2 Q) ∧
  (¬ (r3 = 32) → E h mdX7_byteAt [.ref x0, .int (mI M2 x0 3)] M2 (fun r M4 => mE M2 M4 → ∃ r5 : Int32, r = some (.int r5) ∧ (¬ r5 = 10 → DX7_cut_50 h x0 x1 M4 Q) ∧
  (r5 = 10 → DX7_cut_37 h x0 x1 M4 Q)))))
set_option maxRecDepth 20000 in
set_option maxHeartbeats 2000000 in
theorem VX7_cut_0 {h : Nat} {x0 : Nat} {x1 : Int32} {M : Mem} {Q : Option Value → Mem → Prop} (H : DX7_cut_0 h x0 x1 M Q) : T (h + 1) mdX7_cut 0 [(0, .ref x0), (1, .int x1)] [] M Q := by
  unfold DX7_cut_0 at H
  refine xt_aload_n (j := 0) dX7_cut_0 rfl rfl ?_
  obtain ⟨ho1, H⟩ := H
  refine xt_getI dX7_cut_1 (flX7_54 rfl) ft_9_3 ho1.1 ho1.2 ?_
  refine xt_aload_n (j := 0) dX7_cut_4 rfl rfl ?_
  refine xt_getI dX7_cut_5 (flX7_51 rfl) ft_9_2 ho1.1 ho1.2 ?_
  refine xt_icmp_ge (tgt := 50) dX7_cut_8 (by decide) (fun hc => ?_) (fun hc => ?_)
  · have H := H.1 hc
    exact xt_sub [0, 1] rfl (VX7_cut_50 H)
  · have H := H.2 hc
    refine xt_aload_n (j := 0) dX7_cut_11 rfl rfl ?_
    refine xt_aload_n (j := 0) dX7_cut_12 rfl rfl ?_
    refine xt_getI dX7_cut_13 (flX7_54 rfl) ft_9_3 ho1.1 ho1.2 ?_
    refine xt_callV (h2 := h) (as := [.int (mI M x0 3)]) (st := []) dX7_cut_16 (mlX7_76 rfl) rfl ho1.1 ⟨by rw [ho1.2]; rfl, by rw [ho1.2]; decide⟩ (by first | decide | (simp [Value.category]; done)) (Nat.le_refl _) H (fun r M2 HH hE => ?_)
    obtain ⟨r3, hr, H⟩ := HH hE
    subst hr
    have ho1 := ok_E ho1 hE
    show T _ _ _ _ [.int r3] _ _
    refine xt_bipush (v := 32) dX7_cut_19 (by decide) ?_
    refine xt_icmp_eq (tgt := 37) dX7_cut_21 (by decide) (fun hc => ?_) (fun hc => ?_)
    · have H := H.1 hc
      exact xt_sub [0, 1] rfl (VX7_cut_37 H)
    · have H := H.2 hc
      refine xt_aload_n (j := 0) dX7_cut_24 rfl rfl ?_
      refine xt_aload_n (j := 0) dX7_cut_25 rfl rfl ?_
      refine xt_getI dX7_cut_26 (flX7_54 rfl) ft_9_3 ho1.1 ho1.2 ?_
      refine xt_callV (h2 := h) (as := [.int (mI M2 x0 3)]) (st := []) dX7_cut_29 (mlX7_76 rfl) rfl ho1.1 ⟨by rw [ho1.2]; rfl, by rw [ho1.2]; decide⟩ (by first | decide | (simp [Value.category]; done)) (Nat.le_refl _) H (fun r M4 HH hE => ?_)
      obtain ⟨r5, hr, H⟩ := HH hE
      subst hr
      have ho1 := ok_E ho1 hE
      show T _ _ _ _ [.int r5] _ _
      refine xt_bipush (v := 10) dX7_cut_32 (by decide) ?_
      refine xt_icmp_ne (tgt := 50) dX7_cut_34 (by decide) (fun hc => ?_) (fun hc => ?_)
      · have H := H.1 hc
        exact xt_sub [0, 1] rfl (VX7_cut_50 H)
      · have H := H.2 hc
        exact xt_sub [0, 1] rfl (VX7_cut_37 H)
theorem KX7_cut {h : Nat} {x0 : Nat} {x1 : Int32} {M : Mem} {Q : Option Value → Mem → Prop} (H : T (h + 1) mdX7_cut 0 [(0, .ref x0), (1, .int x1)] [] M Q) : E (h + 1) mdX7_cut [.ref x0, .int x1] M Q := E.of (by decide) (Nat.le_of_ble_eq_true rfl) (fun _ _ _ => trivial) (xt_sub [0, 1] rfl H)
def DX7_advance_19 (h : Nat) (M : Mem) (Q : Option Value → Mem → Prop) : Prop :=
  Q none M
set_option maxRecDepth 20000 in
set_option maxHeartbeats 2000000 in
theorem VX7_advance_19 {h : Nat} {M : Mem} {Q : Option Value → Mem → Prop} (H : DX7_advance_19 h  M Q) : T (h + 1) mdX7_advance 19 [] [] M Q := by
  unfold DX7_advance_19 at H
  exact xt_return dX7_advance_19 rfl H
def DX7_advance_89 (h : Nat) (M : Mem) (Q : Option Value → Mem → Prop) : Prop :=
  Q none M
set_option maxRecDepth 20000 in
set_option maxHeartbeats 2000000 in
theorem VX7_advance_89 {h : Nat} {M : Mem} {Q : Option Value → Mem → Prop} (H : DX7_advance_89 h  M Q) : T (h + 1) mdX7_advance 89 [] [] M Q := by
  unfold DX7_advance_89 at H
  exact xt_return dX7_advance_89 rfl H
def DX7_advance_0 (h : Nat) (x0 : Nat) (M : Mem) (Q : Option Value → Mem → Prop) : Prop :=
  ok M x0 9 ∧ (¬ (mI M x0 12) = 0 → DX7_advance_19 h  M Q) ∧
  ((mI M x0 12) = 0 → ∃ b2 : Nat, mR M x0 4 = some b2 ∧ ok M b2 21 ∧ ((mI M x0 7) < (Int32.ofNat (mL M b2)) → ∃ b4 : Nat, mR M x0 4 = some b4 ∧ ok M b4 21 ∧ vp_in (mI M x0 7) (mL M b4) ∧ ∀ M6 : Mem, M6 = wI M x0 9 (mAI M b4 (mI M x0 7 : Int32).toNatClampNeg) →
  ∃ b7 : Nat, mR M6 x0 5 = some b7 ∧ ok M6 b7 21 ∧ vp_in (mI M6 x0 7) (mL M6 b7) ∧ ∀ M9 : Mem, M9 = wI M6 x0 10 (mAI M6 b7 (mI M6 x0 7 : Int32).toNatClampNeg) →
  ∃ b10 : Nat, mR M9 x0 6 = some b10 ∧ ok M9 b10 23 ∧ vp_in (mI M9 x0 7) (mL M9 b10) ∧ ∀ M12 : Mem, M12 = wJ M9 x0 11 (mAJ M9 b10 (mI M9 x0 7 : Int32).toNatClampNeg) →
  ∀ M13 : Mem, M13 = wI M12 x0 7 ((mI M12 x0 7) + 1) →
  (¬ (mI M13 x0 9) = 0 → DX7_advance_89 h  M13 Q) ∧
  ((mI M13 x0 9) = 0 → ∀ M14 : Mem, M14 = wI M13 x0 12 1 →
  ∀ M15 : Mem, M15 = wI M14 x0 13 (mI M14 x0 10) →
  DX7_advance_89 h  M15 Q)) ∧
  (¬ ((mI M x0 7) < (Int32.ofNat (mL M b2))) → DX7_advance_19 h  M Q))
set_option maxRecDepth 20000 in
set_option maxHeartbeats 2000000 in
theorem VX7_advance_0 {h : Nat} {x0 : Nat} {M : Mem} {Q : Option Value → Mem → Prop} (H : DX7_advance_0 h x0 M Q) : T (h + 1) mdX7_advance 0 [(0, .ref x0)] [] M Q := by
  unfold DX7_advance_0 at H
  refine xt_aload_n (j := 0) dX7_advance_0 rfl rfl ?_
  obtain ⟨ho1, H⟩ := H
  refine xt_getI dX7_advance_1 (flX7_67 rfl) ft_9_12 ho1.1 ho1.2 ?_
  refine xt_if_ne (tgt := 19) dX7_advance_4 (by decide) (fun hc => ?_) (fun hc => ?_)
  · have H := H.1 hc
    exact xt_sub [] rfl (VX7_advance_19 H)
  · have H := H.2 hc
    refine xt_aload_n (j := 0) dX7_advance_7 rfl rfl ?_
    refine xt_getI dX7_advance_8 (flX7_61 rfl) ft_9_7 ho1.1 ho1.2 ?_
    refine xt_aload_n (j := 0) dX7_advance_11 rfl rfl ?_
    obtain ⟨b2, hb, H⟩ := H
    refine xt_getR dX7_advance_12 (flX7_9 rfl) ft_9_4 ho1.1 ho1.2 hb ?_
    obtain ⟨ho3, H⟩ := H
    refine xt_alen dX7_advance_15 ho3.1 (Or.inr (Or.inl ho3.2)) ?_
    refine xt_icmp_lt (tgt := 20) dX7_advance_16 (by decide) (fun hc => ?_) (fun hc => ?_)
    · have H := H.1 hc
      refine xt_aload_n (j := 0) dX7_advance_20 rfl rfl ?_
      refine xt_aload_n (j := 0) dX7_advance_21 rfl rfl ?_
      obtain ⟨b4, hb, H⟩ := H
      refine xt_getR dX7_advance_22 (flX7_9 rfl) ft_9_4 ho1.1 ho1.2 hb ?_
      refine xt_aload_n (j := 0) dX7_advance_25 rfl rfl ?_
      refine xt_getI dX7_advance_26 (flX7_61 rfl) ft_9_7 ho1.1 ho1.2 ?_
      obtain ⟨ho5, H⟩ := H
      obtain ⟨hi, H⟩ := H
      refine xt_iald dX7_advance_29 ho5.1 ho5.2 hi ?_
      obtain ⟨M6, eM6⟩ : ∃ z, z = wI M x0 9 (mAI M b4 (mI M x0 7 : Int32).toNatClampNeg) := ⟨_, rfl⟩
      have H := H _ eM6
      refine xt_putI dX7_advance_30 (flX7_96 rfl) ty_9_9 rfl ho1.1 ho1.2 ?_
      have ho1 : ok M6 x0 9 := by rw [eM6]; exact ho1
      rw [← eM6]
      refine xt_aload_n (j := 0) dX7_advance_33 rfl rfl ?_
      refine xt_aload_n (j := 0) dX7_advance_34 rfl rfl ?_
      obtain ⟨b7, hb, H⟩ := H
      refine xt_getR dX7_advance_35 (flX7_15 rfl) ft_9_5 ho1.1 ho1.2 hb ?_
      refine xt_aload_n (j := 0) dX7_advance_38 rfl rfl ?_
      refine xt_getI dX7_advance_39 (flX7_61 rfl) ft_9_7 ho1.1 ho1.2 ?_
      obtain ⟨ho8, H⟩ := H
      obtain ⟨hi, H⟩ := H
      refine xt_iald dX7_advance_42 ho8.1 ho8.2 hi ?_
      obtain ⟨M9, eM9⟩ : ∃ z, z = wI M6 x0 10 (mAI M6 b7 (mI M6 x0 7 : Int32).toNatClampNeg) := ⟨_, rfl⟩
      have H := H _ eM9
      refine xt_putI dX7_advance_43 (flX7_99 rfl) ty_9_10 rfl ho1.1 ho1.2 ?_
      have ho1 : ok M9 x0 9 := by rw [eM9]; exact ho1
      rw [← eM9]
      refine xt_aload_n (j := 0) dX7_advance_46 rfl rfl ?_
      refine xt_aload_n (j := 0) dX7_advance_47 rfl rfl ?_
      obtain ⟨b10, hb, H⟩ := H
      refine xt_getR dX7_advance_48 (flX7_18 rfl) ft_9_6 ho1.1 ho1.2 hb ?_
      refine xt_aload_n (j := 0) dX7_advance_51 rfl rfl ?_
      refine xt_getI dX7_advance_52 (flX7_61 rfl) ft_9_7 ho1.1 ho1.2 ?_
      obtain ⟨ho11, H⟩ := H
      obtain ⟨hi, H⟩ := H
      refine xt_lald dX7_advance_55 ho11.1 ho11.2 hi ?_
      obtain ⟨M12, eM12⟩ : ∃ z, z = wJ M9 x0 11 (mAJ M9 b10 (mI M9 x0 7 : Int32).toNatClampNeg) := ⟨_, rfl⟩
      have H := H _ eM12
      refine xt_putJ dX7_advance_56 (flX7_102 rfl) ty_9_11 rfl ho1.1 ho1.2 ?_
      have ho1 : ok M12 x0 9 := by rw [eM12]; exact ho1
      rw [← eM12]
      refine xt_aload_n (j := 0) dX7_advance_59 rfl rfl ?_
      refine xt_dup dX7_advance_60 rfl ?_
      refine xt_getI dX7_advance_61 (flX7_61 rfl) ft_9_7 ho1.1 ho1.2 ?_
      refine xt_iconst (v := 1) dX7_advance_64 (by decide) ?_
      refine xt_iadd dX7_advance_65 ?_
      obtain ⟨M13, eM13⟩ : ∃ z, z = wI M12 x0 7 ((mI M12 x0 7) + 1) := ⟨_, rfl⟩
      have H := H _ eM13
      refine xt_putI dX7_advance_66 (flX7_61 rfl) ty_9_7 rfl ho1.1 ho1.2 ?_
      have ho1 : ok M13 x0 9 := by rw [eM13]; exact ho1
      rw [← eM13]
      refine xt_aload_n (j := 0) dX7_advance_69 rfl rfl ?_
      refine xt_getI dX7_advance_70 (flX7_96 rfl) ft_9_9 ho1.1 ho1.2 ?_
      refine xt_if_ne (tgt := 89) dX7_advance_73 (by decide) (fun hc => ?_) (fun hc => ?_)
      · have H := H.1 hc
        exact xt_sub [] rfl (VX7_advance_89 H)
      · have H := H.2 hc
        refine xt_aload_n (j := 0) dX7_advance_76 rfl rfl ?_
        refine xt_iconst (v := 1) dX7_advance_77 (by decide) ?_
        obtain ⟨M14, eM14⟩ : ∃ z, z = wI M13 x0 12 1 := ⟨_, rfl⟩
        have H := H _ eM14
        refine xt_putI dX7_advance_78 (flX7_67 rfl) ty_9_12 rfl ho1.1 ho1.2 ?_
        have ho1 : ok M14 x0 9 := by rw [eM14]; exact ho1
        rw [← eM14]
        refine xt_aload_n (j := 0) dX7_advance_81 rfl rfl ?_
        refine xt_aload_n (j := 0) dX7_advance_82 rfl rfl ?_
        refine xt_getI dX7_advance_83 (flX7_99 rfl) ft_9_10 ho1.1 ho1.2 ?_
        obtain ⟨M15, eM15⟩ : ∃ z, z = wI M14 x0 13 (mI M14 x0 10) := ⟨_, rfl⟩
        have H := H _ eM15
        refine xt_putI dX7_advance_86 (flX7_70 rfl) ty_9_13 rfl ho1.1 ho1.2 ?_
        have ho1 : ok M15 x0 9 := by rw [eM15]; exact ho1
        rw [← eM15]
        exact xt_sub [] rfl (VX7_advance_89 H)
    · have H := H.2 hc
      exact xt_sub [] rfl (VX7_advance_19 H)
theorem KX7_advance {h : Nat} {x0 : Nat} {M : Mem} {Q : Option Value → Mem → Prop} (H : DX7_advance_0 h x0 M Q) : E (h + 1) mdX7_advance [.ref x0] M Q := E.of (by decide) (Nat.le_of_ble_eq_true rfl) (fun _ _ _ => trivial) (VX7_advance_0 H)
def DX7_accept_0 (h : Nat) (x0 : Nat) (x1 : Int32) (M : Mem) (Q : Option Value → Mem → Prop) : Prop :=
  ok M x0 9 ∧ ((mI M x0 9) = x1 → E h mdX7_advance [.ref x0] M (fun r M2 => mE M M2 → r = none ∧ ((1 : Int32) = 0 ∨ (1 : Int32) = 1) ∧ Q (some (.int 1)) M2)) ∧
  (¬ ((mI M x0 9) = x1) → ((0 : Int32) = 0 ∨ (0 : Int32) = 1) ∧ Q (some (.int 0)) M)
set_option maxRecDepth 20000 in
set_option maxHeartbeats 2000000 in
theorem VX7_accept_0 {h : Nat} {x0 : Nat} {x1 : Int32} {M : Mem} {Q : Option Value → Mem → Prop} (H : DX7_accept_0 h x0 x1 M Q) : T (h + 1) mdX7_accept 0 [(0, .ref x0), (1, .int x1)] [] M Q := by
  unfold DX7_accept_0 at H
  refine xt_aload_n (j := 0) dX7_accept_0 rfl rfl ?_
  obtain ⟨ho1, H⟩ := H
  refine xt_getI dX7_accept_1 (flX7_96 rfl) ft_9_9 ho1.1 ho1.2 ?_
  refine xt_iload_n (j := 1) dX7_accept_4 rfl rfl ?_
  refine xt_icmp_eq (tgt := 10) dX7_accept_5 (by decide) (fun hc => ?_) (fun hc => ?_)
  · have H := H.1 hc
    refine xt_aload_n (j := 0) dX7_accept_10 rfl rfl ?_
    refine xt_callV (h2 := h) (as := []) (st := []) dX7_accept_11 (mlX7_73 rfl) rfl ho1.1 ⟨by rw [ho1.2]; rfl, by rw [ho1.2]; decide⟩ (by first | decide | (simp [Value.category]; done)) (Nat.le_refl _) H (fun r M2 HH hE => ?_)
    obtain ⟨hr, H⟩ := HH hE
    subst hr
    have ho1 := ok_E ho1 hE
    show T _ _ _ _ [] _ _
    refine xt_iconst (v := 1) dX7_accept_14 (by decide) ?_
    exact xt_zreturn dX7_accept_15 rfl H.1 H.2
  · have H := H.2 hc
    refine xt_iconst (v := 0) dX7_accept_8 (by decide) ?_
    exact xt_zreturn dX7_accept_9 rfl H.1 H.2
theorem KX7_accept {h : Nat} {x0 : Nat} {x1 : Int32} {M : Mem} {Q : Option Value → Mem → Prop} (H : DX7_accept_0 h x0 x1 M Q) : E (h + 1) mdX7_accept [.ref x0, .int x1] M Q := E.of (by decide) (Nat.le_of_ble_eq_true rfl) (fun _ _ _ => trivial) (VX7_accept_0 H)
def DX7_expect_20 (h : Nat) (M : Mem) (Q : Option Value → Mem → Prop) : Prop :=
  Q none M
set_option maxRecDepth 20000 in
set_option maxHeartbeats 2000000 in
theorem VX7_expect_20 {h : Nat} {M : Mem} {Q : Option Value → Mem → Prop} (H : DX7_expect_20 h  M Q) : T (h + 1) mdX7_expect 20 [] [] M Q := by
  unfold DX7_expect_20 at H
  exact xt_return dX7_expect_20 rfl H
def DX7_expect_0 (h : Nat) (x0 : Nat) (x1 : Int32) (M : Mem) (Q : Option Value → Mem → Prop) : Prop :=
  ok M x0 9 ∧ (¬ (mI M x0 9) = x1 → E h mdX7_fail [.ref x0, .int 2] M (fun r M2 => mE M M2 → r = none ∧ DX7_expect_20 h  M2 Q)) ∧
  ((mI M x0 9) = x1 → E h mdX7_advance [.ref x0] M (fun r M3 => mE M M3 → r = none ∧ DX7_expect_20 h  M3 Q))
set_option maxRecDepth 20000 in
set_option maxHeartbeats 2000000 in
theorem VX7_expect_0 {h : Nat} {x0 : Nat} {x1 : Int32} {M : Mem} {Q : Option Value → Mem → Prop} (H : DX7_expect_0 h x0 x1 M Q) : T (h + 1) mdX7_expect 0 [(0, .ref x0), (1, .int x1)] [] M Q := by
  unfold DX7_expect_0 at H
  refine xt_aload_n (j := 0) dX7_expect_0 rfl rfl ?_
  obtain ⟨ho1, H⟩ := H
  refine xt_getI dX7_expect_1 (flX7_96 rfl) ft_9_9 ho1.1 ho1.2 ?_
  refine xt_iload_n (j := 1) dX7_expect_4 rfl rfl ?_
  refine xt_icmp_ne (tgt := 15) dX7_expect_5 (by decide) (fun hc => ?_) (fun hc => ?_)
  · have H := H.1 hc
    refine xt_aload_n (j := 0) dX7_expect_15 rfl rfl ?_
    refine xt_iconst (v := 2) dX7_expect_16 (by decide) ?_
    refine xt_callV (h2 := h) (as := [.int 2]) (st := []) dX7_expect_17 (mlX7_106 rfl) rfl ho1.1 ⟨by rw [ho1.2]; rfl, by rw [ho1.2]; decide⟩ (by first | decide | (simp [Value.category]; done)) (Nat.le_refl _) H (fun r M2 HH hE => ?_)
    obtain ⟨hr, H⟩ := HH hE
    subst hr
    have ho1 := ok_E ho1 hE
    show T _ _ _ _ [] _ _
    exact xt_sub [] rfl (VX7_expect_20 H)
  · have H := H.2 hc
    refine xt_aload_n (j := 0) dX7_expect_8 rfl rfl ?_
    refine xt_callV (h2 := h) (as := []) (st := []) dX7_expect_9 (mlX7_73 rfl) rfl ho1.1 ⟨by rw [ho1.2]; rfl, by rw [ho1.2]; decide⟩ (by first | decide | (simp [Value.category]; done)) (Nat.le_refl _) H (fun r M3 HH hE => ?_)
    obtain ⟨hr, H⟩ := HH hE
    subst hr
    have ho1 := ok_E ho1 hE
    show T _ _ _ _ [] _ _
    refine xt_goto (tgt := 20) dX7_expect_12 (by decide) ?_
    exact xt_sub [] rfl (VX7_expect_20 H)
theorem KX7_expect {h : Nat} {x0 : Nat} {x1 : Int32} {M : Mem} {Q : Option Value → Mem → Prop} (H : DX7_expect_0 h x0 x1 M Q) : E (h + 1) mdX7_expect [.ref x0, .int x1] M Q := E.of (by decide) (Nat.le_of_ble_eq_true rfl) (fun _ _ _ => trivial) (VX7_expect_0 H)
def DX7_fail_20 (h : Nat) (x0 : Nat) (M : Mem) (Q : Option Value → Mem → Prop) : Prop :=
  ok M x0 9 ∧ ∀ M2 : Mem, M2 = wI M x0 9 0 →
  Q none M2
set_option maxRecDepth 20000 in
set_option maxHeartbeats 2000000 in
theorem VX7_fail_20 {h : Nat} {x0 : Nat} {M : Mem} {Q : Option Value → Mem → Prop} (H : DX7_fail_20 h x0 M Q) : T (h + 1) mdX7_fail 20 [(0, .ref x0)] [] M Q := by
  unfold DX7_fail_20 at H
  refine xt_aload_n (j := 0) dX7_fail_20 rfl rfl ?_
  refine xt_iconst (v := 0) dX7_fail_21 (by decide) ?_
  obtain ⟨ho1, H⟩ := H
  obtain ⟨M2, eM2⟩ : ∃ z, z = wI M x0 9 0 := ⟨_, rfl⟩
  have H := H _ eM2
  refine xt_putI dX7_fail_22 (flX7_96 rfl) ty_9_9 rfl ho1.1 ho1.2 ?_
  have ho1 : ok M2 x0 9 := by rw [eM2]; exact ho1
  rw [← eM2]
  exact xt_return dX7_fail_25 rfl H
def DX7_fail_0 (h : Nat) (x0 : Nat) (x1 : Int32) (M : Mem) (Q : Option Value → Mem → Prop) : Prop :=
  ok M x0 9 ∧ (¬ (mI M x0 12) = 0 → DX7_fail_20 h x0 M Q) ∧
  ((mI M x0 12) = 0 → ∀ M2 : Mem, M2 = wI M x0 12 x1 →
  ∀ M3 : Mem, M3 = wI M2 x0 13 (mI M2 x0 10) →
  DX7_fail_20 h x0 M3 Q)
set_option maxRecDepth 20000 in
set_option maxHeartbeats 2000000 in
theorem VX7_fail_0 {h : Nat} {x0 : Nat} {x1 : Int32} {M : Mem} {Q : Option Value → Mem → Prop} (H : DX7_fail_0 h x0 x1 M Q) : T (h + 1) mdX7_fail 0 [(0, .ref x0), (1, .int x1)] [] M Q := by
  unfold DX7_fail_0 at H
  refine xt_aload_n (j := 0) dX7_fail_0 rfl rfl ?_
  obtain ⟨ho1, H⟩ := H
  refine xt_getI dX7_fail_1 (flX7_67 rfl) ft_9_12 ho1.1 ho1.2 ?_
  refine xt_if_ne (tgt := 20) dX7_fail_4 (by decide) (fun hc => ?_) (fun hc => ?_)
  · have H := H.1 hc
    exact xt_sub [0] rfl (VX7_fail_20 H)
  · have H := H.2 hc
    refine xt_aload_n (j := 0) dX7_fail_7 rfl rfl ?_
    refine xt_iload_n (j := 1) dX7_fail_8 rfl rfl ?_
    obtain ⟨M2, eM2⟩ : ∃ z, z = wI M x0 12 x1 := ⟨_, rfl⟩
    have H := H _ eM2
    refine xt_putI dX7_fail_9 (flX7_67 rfl) ty_9_12 rfl ho1.1 ho1.2 ?_
    have ho1 : ok M2 x0 9 := by rw [eM2]; exact ho1
    rw [← eM2]
    refine xt_aload_n (j := 0) dX7_fail_12 rfl rfl ?_
    refine xt_aload_n (j := 0) dX7_fail_13 rfl rfl ?_
    refine xt_getI dX7_fail_14 (flX7_99 rfl) ft_9_10 ho1.1 ho1.2 ?_
    obtain ⟨M3, eM3⟩ : ∃ z, z = wI M2 x0 13 (mI M2 x0 10) := ⟨_, rfl⟩
    have H := H _ eM3
    refine xt_putI dX7_fail_17 (flX7_70 rfl) ty_9_13 rfl ho1.1 ho1.2 ?_
    have ho1 : ok M3 x0 9 := by rw [eM3]; exact ho1
    rw [← eM3]
    exact xt_sub [0] rfl (VX7_fail_20 H)
theorem KX7_fail {h : Nat} {x0 : Nat} {x1 : Int32} {M : Mem} {Q : Option Value → Mem → Prop} (H : DX7_fail_0 h x0 x1 M Q) : E (h + 1) mdX7_fail [.ref x0, .int x1] M Q := E.of (by decide) (Nat.le_of_ble_eq_true rfl) (fun _ _ _ => trivial) (VX7_fail_0 H)
def DX7_failAt_0 (h : Nat) (x0 : Nat) (x1 : Int32) (x2 : Int32) (M : Mem) (Q : Option Value → Mem → Prop) : Prop :=
  ok M x0 9 ∧ ∀ M2 : Mem, M2 = wI M x0 10 x2 →
  E h mdX7_fail [.ref x0, .int x1] M2 (fun r M3 => mE M2 M3 → r = none ∧ Q none M3)
set_option maxRecDepth 20000 in
set_option maxHeartbeats 2000000 in
theorem VX7_failAt_0 {h : Nat} {x0 : Nat} {x1 : Int32} {x2 : Int32} {M : Mem} {Q : Option Value → Mem → Prop} (H : DX7_failAt_0 h x0 x1 x2 M Q) : T (h + 1) mdX7_failAt 0 [(0, .ref x0), (1, .int x1), (2, .int x2)] [] M Q := by
  unfold DX7_failAt_0 at H
  refine xt_aload_n (j := 0) dX7_failAt_0 rfl rfl ?_
  refine xt_iload_n (j := 2) dX7_failAt_1 rfl rfl ?_
  obtain ⟨ho1, H⟩ := H
  obtain ⟨M2, eM2⟩ : ∃ z, z = wI M x0 10 x2 := ⟨_, rfl⟩
  have H := H _ eM2
  refine xt_putI dX7_failAt_2 (flX7_99 rfl) ty_9_10 rfl ho1.1 ho1.2 ?_
  have ho1 : ok M2 x0 9 := by rw [eM2]; exact ho1
  rw [← eM2]
  refine xt_aload_n (j := 0) dX7_failAt_5 rfl rfl ?_
  refine xt_iload_n (j := 1) dX7_failAt_6 rfl rfl ?_
  refine xt_callV (h2 := h) (as := [.int x1]) (st := []) dX7_failAt_7 (mlX7_106 rfl) rfl ho1.1 ⟨by rw [ho1.2]; rfl, by rw [ho1.2]; decide⟩ (by first | decide | (simp [Value.category]; done)) (Nat.le_refl _) H (fun r M3 HH hE => ?_)
  obtain ⟨hr, H⟩ := HH hE
  subst hr
  have ho1 := ok_E ho1 hE
  show T _ _ _ _ [] _ _
  exact xt_return dX7_failAt_10 rfl H
theorem KX7_failAt {h : Nat} {x0 : Nat} {x1 : Int32} {x2 : Int32} {M : Mem} {Q : Option Value → Mem → Prop} (H : DX7_failAt_0 h x0 x1 x2 M Q) : E (h + 1) mdX7_failAt [.ref x0, .int x1, .int x2] M Q := E.of (by decide) (Nat.le_of_ble_eq_true rfl) (fun _ _ _ => trivial) (VX7_failAt_0 H)
def DX7_opens_28 (h : Nat) (M : Mem) (Q : Option Value → Mem → Prop) : Prop :=
  Q none M
set_option maxRecDepth 20000 in
set_option maxHeartbeats 2000000 in
theorem VX7_opens_28 {h : Nat} {M : Mem} {Q : Option Value → Mem → Prop} (H : DX7_opens_28 h  M Q) : T (h + 1) mdX7_opens 28 [] [] M Q := by
  unfold DX7_opens_28 at H
  exact xt_return dX7_opens_28 rfl H
def DX7_opens_0 (h : Nat) (x0 : Nat) (M : Mem) (Q : Option Value → Mem → Prop) : Prop :=
  ok M x0 9 ∧ ((mI M x0 8) < 15 → ∀ M2 : Mem, M2 = wI M x0 8 ((mI M x0 8) + 1) →
  DX7_opens_28 h  M2 Q) ∧
  (¬ ((mI M x0 8) < 15) → E h mdX7_fail [.ref x0, .int 6] M (fun r M3 => mE M M3 → r = none ∧ DX7_opens_28 h  M3 Q))
set_option maxRecDepth 20000 in
set_option maxHeartbeats 2000000 in
theorem VX7_opens_0 {h : Nat} {x0 : Nat} {M : Mem} {Q : Option Value → Mem → Prop} (H : DX7_opens_0 h x0 M Q) : T (h + 1) mdX7_opens 0 [(0, .ref x0)] [] M Q := by
  unfold DX7_opens_0 at H
  refine xt_aload_n (j := 0) dX7_opens_0 rfl rfl ?_
  obtain ⟨ho1, H⟩ := H
  refine xt_getI dX7_opens_1 (flX7_64 rfl) ft_9_8 ho1.1 ho1.2 ?_
  refine xt_bipush (v := 15) dX7_opens_4 (by decide) ?_
  refine xt_icmp_lt (tgt := 18) dX7_opens_6 (by decide) (fun hc => ?_) (fun hc => ?_)
  · have H := H.1 hc
    refine xt_aload_n (j := 0) dX7_opens_18 rfl rfl ?_
    refine xt_dup dX7_opens_19 rfl ?_
    refine xt_getI dX7_opens_20 (flX7_64 rfl) ft_9_8 ho1.1 ho1.2 ?_
    refine xt_iconst (v := 1) dX7_opens_23 (by decide) ?_
    refine xt_iadd dX7_opens_24 ?_
    obtain ⟨M2, eM2⟩ : ∃ z, z = wI M x0 8 ((mI M x0 8) + 1) := ⟨_, rfl⟩
    have H := H _ eM2
    refine xt_putI dX7_opens_25 (flX7_64 rfl) ty_9_8 rfl ho1.1 ho1.2 ?_
    have ho1 : ok M2 x0 9 := by rw [eM2]; exact ho1
    rw [← eM2]
    exact xt_sub [] rfl (VX7_opens_28 H)
  · have H := H.2 hc
    refine xt_aload_n (j := 0) dX7_opens_9 rfl rfl ?_
    refine xt_bipush (v := 6) dX7_opens_10 (by decide) ?_
    refine xt_callV (h2 := h) (as := [.int 6]) (st := []) dX7_opens_12 (mlX7_106 rfl) rfl ho1.1 ⟨by rw [ho1.2]; rfl, by rw [ho1.2]; decide⟩ (by first | decide | (simp [Value.category]; done)) (Nat.le_refl _) H (fun r M3 HH hE => ?_)
    obtain ⟨hr, H⟩ := HH hE
    subst hr
    have ho1 := ok_E ho1 hE
    show T _ _ _ _ [] _ _
    refine xt_goto (tgt := 28) dX7_opens_15 (by decide) ?_
    exact xt_sub [] rfl (VX7_opens_28 H)
theorem KX7_opens {h : Nat} {x0 : Nat} {M : Mem} {Q : Option Value → Mem → Prop} (H : DX7_opens_0 h x0 M Q) : E (h + 1) mdX7_opens [.ref x0] M Q := E.of (by decide) (Nat.le_of_ble_eq_true rfl) (fun _ _ _ => trivial) (VX7_opens_0 H)
def DX7_closes_0 (h : Nat) (x0 : Nat) (M : Mem) (Q : Option Value → Mem → Prop) : Prop :=
  ok M x0 9 ∧ ∀ M2 : Mem, M2 = wI M x0 8 ((mI M x0 8) - 1) →
  Q none M2
set_option maxRecDepth 20000 in
set_option maxHeartbeats 2000000 in
theorem VX7_closes_0 {h : Nat} {x0 : Nat} {M : Mem} {Q : Option Value → Mem → Prop} (H : DX7_closes_0 h x0 M Q) : T (h + 1) mdX7_closes 0 [(0, .ref x0)] [] M Q := by
  unfold DX7_closes_0 at H
  refine xt_aload_n (j := 0) dX7_closes_0 rfl rfl ?_
  refine xt_dup dX7_closes_1 rfl ?_
  obtain ⟨ho1, H⟩ := H
  refine xt_getI dX7_closes_2 (flX7_64 rfl) ft_9_8 ho1.1 ho1.2 ?_
  refine xt_iconst (v := 1) dX7_closes_5 (by decide) ?_
  refine xt_isub dX7_closes_6 ?_
  obtain ⟨M2, eM2⟩ : ∃ z, z = wI M x0 8 ((mI M x0 8) - 1) := ⟨_, rfl⟩
  have H := H _ eM2
  refine xt_putI dX7_closes_7 (flX7_64 rfl) ty_9_8 rfl ho1.1 ho1.2 ?_
  have ho1 : ok M2 x0 9 := by rw [eM2]; exact ho1
  rw [← eM2]
  exact xt_return dX7_closes_10 rfl H
theorem KX7_closes {h : Nat} {x0 : Nat} {M : Mem} {Q : Option Value → Mem → Prop} (H : DX7_closes_0 h x0 M Q) : E (h + 1) mdX7_closes [.ref x0] M Q := E.of (by decide) (Nat.le_of_ble_eq_true rfl) (fun _ _ _ => trivial) (VX7_closes_0 H)
def DX7_cutWord_133 (h : Nat) (M : Mem) (Q : Option Value → Mem → Prop) : Prop :=
  Q none M
set_option maxRecDepth 20000 in
set_option maxHeartbeats 2000000 in
theorem VX7_cutWord_133 {h : Nat} {M : Mem} {Q : Option Value → Mem → Prop} (H : DX7_cutWord_133 h  M Q) : T (h + 1) mdX7_cutWord 133 [] [] M Q := by
  unfold DX7_cutWord_133 at H
  exact xt_return dX7_cutWord_133 rfl H
def DX7_cutWord_127 (h : Nat) (x0 : Nat) (x1 : Int32) (x2 : Int64) (x5 : Int32) (M : Mem) (Q : Option Value → Mem → Prop) : Prop :=
  T (h + 1) mdX7_cutWord 87 [(0, .ref x0), (1, .int x1), (2, .long x2), (5, .int (x5 + 1))] [] M Q
set_option maxRecDepth 20000 in
set_option maxHeartbeats 2000000 in
theorem VX7_cutWord_127 {h : Nat} {x0 : Nat} {x1 : Int32} {x2 : Int64} {x5 : Int32} {M : Mem} {Q : Option Value → Mem → Prop} (H : DX7_cutWord_127 h x0 x1 x2 x5 M Q) : T (h + 1) mdX7_cutWord 127 [(0, .ref x0), (1, .int x1), (2, .long x2), (5, .int x5)] [] M Q := by
  unfold DX7_cutWord_127 at H
  refine xt_iinc (j := 3) (v := x5 + 1) (lv' := [(5, .int (x5 + 1)), (0, .ref x0), (1, .int x1), (2, .long x2)]) dX7_cutWord_127 rfl (by rfl) (by decide) rfl ?_
  refine xt_goto (tgt := 87) dX7_cutWord_130 (by decide) ?_
  exact xt_sub (lv' := [(0, .ref x0), (1, .int x1), (2, .long x2), (5, .int (x5 + 1))]) [1, 2, 3, 0] rfl H
def DX7_cutWord_87 (h : Nat) (x0 : Nat) (x1 : Int32) (x2 : Int64) (x5 : Int32) (M : Mem) (Q : Option Value → Mem → Prop) : Prop :=
  (33 ≤ x5 → DX7_cutWord_133 h  M Q) ∧
  (¬ (33 ≤ x5) → ok M x0 9 ∧ ∃ b2 : Nat, mR M x0 4 = some b2 ∧ ok M b2 21 ∧ vp_in x1 (mL M b2) ∧ (¬ (mAI M b2 (x1 : Int32).toNatClampNeg) = 2 → DX7_cutWord_133 h  M Q) ∧
  ((mAI M b2 (x1 : Int32).toNatClampNeg) = 2 → ∃ b4 : Nat, mR M x0 1 = some b4 ∧ ok M b4 23 ∧ vp_in x5 (mL M b4) ∧ (¬ (lg_cmp (mAJ M b4 (x5 : Int32).toNatClampNeg) x2) = 0 → DX7_cutWord_127 h x0 x1 x2 x5 M Q) ∧
  ((lg_cmp (mAJ M b4 (x5 : Int32).toNatClampNeg) x2) = 0 → ∃ b6 : Nat, mR M x0 4 = some b6 ∧ ok M b6 21 ∧ vp_in x1 (mL M b6) ∧ ∀ M8 : Mem, M8 = wAI M b6 (x1 : Int32).toNatClampNeg (30 + x5) →
  DX7_cutWord_127 h x0 x1 x2 x5 M8 Q)))
set_option maxRecDepth 20000 in
set_option maxHeartbeats 2000000 in
theorem VX7_cutWord_87 {h : Nat} {x0 : Nat} {x1 : Int32} {x2 : Int64} {x5 : Int32} {M : Mem} {Q : Option Value → Mem → Prop} (H : DX7_cutWord_87 h x0 x1 x2 x5 M Q) : T (h + 1) mdX7_cutWord 87 [(0, .ref x0), (1, .int x1), (2, .long x2), (5, .int x5)] [] M Q := by
  unfold DX7_cutWord_87 at H
  refine xt_iload (j := 3) dX7_cutWord_87 rfl ?_
  refine xt_bipush (v := 33) dX7_cutWord_89 (by decide) ?_
  refine xt_icmp_ge (tgt := 133) dX7_cutWord_91 (by decide) (fun hc => ?_) (fun hc => ?_)
  · have H := H.1 hc
    exact xt_sub [] rfl (VX7_cutWord_133 H)
  · have H := H.2 hc
    refine xt_aload_n (j := 0) dX7_cutWord_94 rfl rfl ?_
    obtain ⟨ho1, H⟩ := H
    obtain ⟨b2, hb, H⟩ := H
    refine xt_getR dX7_cutWord_95 (flX7_9 rfl) ft_9_4 ho1.1 ho1.2 hb ?_
    refine xt_iload_n (j := 1) dX7_cutWord_98 rfl rfl ?_
    obtain ⟨ho3, H⟩ := H
    obtain ⟨hi, H⟩ := H
    refine xt_iald dX7_cutWord_99 ho3.1 ho3.2 hi ?_
    refine xt_iconst (v := 2) dX7_cutWord_100 (by decide) ?_
    refine xt_icmp_ne (tgt := 133) dX7_cutWord_101 (by decide) (fun hc => ?_) (fun hc => ?_)
    · have H := H.1 hc
      exact xt_sub [] rfl (VX7_cutWord_133 H)
    · have H := H.2 hc
      refine xt_aload_n (j := 0) dX7_cutWord_104 rfl rfl ?_
      obtain ⟨b4, hb, H⟩ := H
      refine xt_getR dX7_cutWord_105 (flX7_26 rfl) ft_9_1 ho1.1 ho1.2 hb ?_
      refine xt_iload (j := 3) dX7_cutWord_108 rfl ?_
      obtain ⟨ho5, H⟩ := H
      obtain ⟨hi, H⟩ := H
      refine xt_lald dX7_cutWord_110 ho5.1 ho5.2 hi ?_
      refine xt_lload_n (j := 2) dX7_cutWord_111 rfl rfl ?_
      refine xt_lcmp dX7_cutWord_112 ?_
      refine xt_if_ne (tgt := 127) dX7_cutWord_113 (by decide) (fun hc => ?_) (fun hc => ?_)
      · have H := H.1 hc
        exact xt_sub [0, 1, 2, 3] rfl (VX7_cutWord_127 H)
      · have H := H.2 hc
        refine xt_aload_n (j := 0) dX7_cutWord_116 rfl rfl ?_
        obtain ⟨b6, hb, H⟩ := H
        refine xt_getR dX7_cutWord_117 (flX7_9 rfl) ft_9_4 ho1.1 ho1.2 hb ?_
        refine xt_iload_n (j := 1) dX7_cutWord_120 rfl rfl ?_
        refine xt_bipush (v := 30) dX7_cutWord_121 (by decide) ?_
        refine xt_iload (j := 3) dX7_cutWord_123 rfl ?_
        refine xt_iadd dX7_cutWord_125 ?_
        obtain ⟨ho7, H⟩ := H
        obtain ⟨hi, H⟩ := H
        obtain ⟨M8, eM8⟩ : ∃ z, z = wAI M b6 (x1 : Int32).toNatClampNeg (30 + x5) := ⟨_, rfl⟩
        have H := H _ eM8
        refine xt_iast dX7_cutWord_126 ho7.1 ho7.2 hi ?_
        have ho1 : ok M8 x0 9 := by rw [eM8]; exact ho1
        rw [← eM8]
        exact xt_sub [0, 1, 2, 3] rfl (VX7_cutWord_127 H)
def DX7_cutWord_83 (h : Nat) (x0 : Nat) (x1 : Int32) (x2 : Int64) (s0 : Nat) (s1 : Int32) (s2 : Int32) (M : Mem) (Q : Option Value → Mem → Prop) : Prop :=
  ok M s0 21 ∧ vp_in s1 (mL M s0) ∧ ∀ M2 : Mem, M2 = wAI M s0 (s1 : Int32).toNatClampNeg s2 →
  T (h + 1) mdX7_cutWord 87 [(0, .ref x0), (1, .int x1), (2, .long x2), (5, .int 0)] [] M2 Q
set_option maxRecDepth 20000 in
set_option maxHeartbeats 2000000 in
theorem VX7_cutWord_83 {h : Nat} {x0 : Nat} {x1 : Int32} {x2 : Int64} {s0 : Nat} {s1 : Int32} {s2 : Int32} {M : Mem} {Q : Option Value → Mem → Prop} (H : DX7_cutWord_83 h x0 x1 x2 s0 s1 s2 M Q) : T (h + 1) mdX7_cutWord 83 [(0, .ref x0), (1, .int x1), (2, .long x2)] [.int s2, .int s1, .ref s0] M Q := by
  unfold DX7_cutWord_83 at H
  obtain ⟨ho1, H⟩ := H
  obtain ⟨hi, H⟩ := H
  obtain ⟨M2, eM2⟩ : ∃ z, z = wAI M s0 (s1 : Int32).toNatClampNeg s2 := ⟨_, rfl⟩
  have H := H _ eM2
  refine xt_iast dX7_cutWord_83 ho1.1 ho1.2 hi ?_
  rw [← eM2]
  refine xt_iconst (v := 0) dX7_cutWord_84 (by decide) ?_
  refine xt_istore (lv' := [(5, .int 0), (0, .ref x0), (1, .int x1), (2, .long x2)]) dX7_cutWord_85 (by decide) rfl ?_
  exact xt_sub (lv' := [(0, .ref x0), (1, .int x1), (2, .long x2), (5, .int 0)]) [1, 2, 3, 0] rfl H
def DX7_cutWord_59 (h : Nat) (x0 : Nat) (x1 : Int32) (x2 : Int64) (x4 : Int32) (M : Mem) (Q : Option Value → Mem → Prop) : Prop :=
  ok M x0 9 ∧ ∃ b2 : Nat, mR M x0 6 = some b2 ∧ ok M b2 23 ∧ vp_in x1 (mL M b2) ∧ ∀ M4 : Mem, M4 = wAJ M b2 (x1 : Int32).toNatClampNeg x2 →
  ∃ b5 : Nat, mR M4 x0 4 = some b5 ∧ (x4 ≤ 10 → DX7_cutWord_83 h x0 x1 x2 b5 x1 2 M4 Q) ∧
  (¬ (x4 ≤ 10) → DX7_cutWord_83 h x0 x1 x2 b5 x1 0 M4 Q)
set_option maxRecDepth 20000 in
set_option maxHeartbeats 2000000 in
theorem VX7_cutWord_59 {h : Nat} {x0 : Nat} {x1 : Int32} {x2 : Int64} {x4 : Int32} {M : Mem} {Q : Option Value → Mem → Prop} (H : DX7_cutWord_59 h x0 x1 x2 x4 M Q) : T (h + 1) mdX7_cutWord 59 [(0, .ref x0), (1, .int x1), (2, .long x2), (4, .int x4)] [] M Q := by
  unfold DX7_cutWord_59 at H
  refine xt_aload_n (j := 0) dX7_cutWord_59 rfl rfl ?_
  obtain ⟨ho1, H⟩ := H
  obtain ⟨b2, hb, H⟩ := H
  refine xt_getR dX7_cutWord_60 (flX7_18 rfl) ft_9_6 ho1.1 ho1.2 hb ?_
  refine xt_iload_n (j := 1) dX7_cutWord_63 rfl rfl ?_
  refine xt_lload_n (j := 2) dX7_cutWord_64 rfl rfl ?_
  obtain ⟨ho3, H⟩ := H
  obtain ⟨hi, H⟩ := H
  obtain ⟨M4, eM4⟩ : ∃ z, z = wAJ M b2 (x1 : Int32).toNatClampNeg x2 := ⟨_, rfl⟩
  have H := H _ eM4
  refine xt_last dX7_cutWord_65 ho3.1 ho3.2 hi ?_
  have ho1 : ok M4 x0 9 := by rw [eM4]; exact ho1
  rw [← eM4]
  refine xt_aload_n (j := 0) dX7_cutWord_66 rfl rfl ?_
  obtain ⟨b5, hb, H⟩ := H
  refine xt_getR dX7_cutWord_67 (flX7_9 rfl) ft_9_4 ho1.1 ho1.2 hb ?_
  refine xt_iload_n (j := 1) dX7_cutWord_70 rfl rfl ?_
  refine xt_iload (j := 3) dX7_cutWord_71 rfl ?_
  refine xt_bipush (v := 10) dX7_cutWord_73 (by decide) ?_
  refine xt_icmp_le (tgt := 82) dX7_cutWord_75 (by decide) (fun hc => ?_) (fun hc => ?_)
  · have H := H.1 hc
    refine xt_iconst (v := 2) dX7_cutWord_82 (by decide) ?_
    exact xt_sub [0, 1, 2] rfl (VX7_cutWord_83 H)
  · have H := H.2 hc
    refine xt_iconst (v := 0) dX7_cutWord_78 (by decide) ?_
    refine xt_goto (tgt := 83) dX7_cutWord_79 (by decide) ?_
    exact xt_sub [0, 1, 2] rfl (VX7_cutWord_83 H)
def DX7_cutWord_5 (h : Nat) (x0 : Nat) (x1 : Int32) (x2 : Int64) (x4 : Int32) (M : Mem) (Q : Option Value → Mem → Prop) : Prop :=
  ok M x0 9 ∧ ((mI M x0 2) ≤ (mI M x0 3) → DX7_cutWord_59 h x0 x1 x2 x4 M Q) ∧
  (¬ ((mI M x0 2) ≤ (mI M x0 3)) → E h mdX7_byteAt [.ref x0, .int (mI M x0 3)] M (fun r M2 => mE M M2 → ∃ r3 : Int32, r = some (.int r3) ∧ E h mdX7_isLetter [.int r3] M2 (fun r M4 => mE M2 M4 → ∃ r5 : Int32, r = some (.int r5) ∧ (r5 = 0 → DX7_cutWord_59 h x0 x1 x2 x4 M4 Q) ∧
  (¬ (r5 = 0) → E h mdX7_byteAt [.ref x0, .int (mI M4 x0 3)] M4 (fun r M6 => mE M4 M6 → ∃ r7 : Int32, r = some (.int r7) ∧ E h mdX7_spelled [.long x2, .int r7] M6 (fun r M8 => mE M6 M8 → ∃ r9 : Int64, r = some (.long r9) ∧ ∀ M10 : Mem, M10 = wI M8 x0 3 ((mI M8 x0 3) + 1) →
  T (h + 1) mdX7_cutWord 5 [(0, .ref x0), (1, .int x1), (2, .long r9), (4, .int (x4 + 1))] [] M10 Q))))))
set_option maxRecDepth 20000 in
set_option maxHeartbeats 2000000 in
theorem VX7_cutWord_5 {h : Nat} {x0 : Nat} {x1 : Int32} {x2 : Int64} {x4 : Int32} {M : Mem} {Q : Option Value → Mem → Prop} (H : DX7_cutWord_5 h x0 x1 x2 x4 M Q) : T (h + 1) mdX7_cutWord 5 [(0, .ref x0), (1, .int x1), (2, .long x2), (4, .int x4)] [] M Q := by
  unfold DX7_cutWord_5 at H
  refine xt_aload_n (j := 0) dX7_cutWord_5 rfl rfl ?_
  obtain ⟨ho1, H⟩ := H
  refine xt_getI dX7_cutWord_6 (flX7_54 rfl) ft_9_3 ho1.1 ho1.2 ?_
  refine xt_aload_n (j := 0) dX7_cutWord_9 rfl rfl ?_
  refine xt_getI dX7_cutWord_10 (flX7_51 rfl) ft_9_2 ho1.1 ho1.2 ?_
  refine xt_icmp_ge (tgt := 59) dX7_cutWord_13 (by decide) (fun hc => ?_) (fun hc => ?_)
  · have H := H.1 hc
    exact xt_sub [0, 1, 2, 3] rfl (VX7_cutWord_59 H)
  · have H := H.2 hc
    refine xt_aload_n (j := 0) dX7_cutWord_16 rfl rfl ?_
    refine xt_aload_n (j := 0) dX7_cutWord_17 rfl rfl ?_
    refine xt_getI dX7_cutWord_18 (flX7_54 rfl) ft_9_3 ho1.1 ho1.2 ?_
    refine xt_callV (h2 := h) (as := [.int (mI M x0 3)]) (st := []) dX7_cutWord_21 (mlX7_76 rfl) rfl ho1.1 ⟨by rw [ho1.2]; rfl, by rw [ho1.2]; decide⟩ (by first | decide | (simp [Value.category]; done)) (Nat.le_refl _) H (fun r M2 HH hE => ?_)
    obtain ⟨r3, hr, H⟩ := HH hE
    subst hr
    have ho1 := ok_E ho1 hE
    show T _ _ _ _ [.int r3] _ _
    refine xt_callS (h2 := h) (as := [.int r3]) (st := []) dX7_cutWord_24 (mlX7_79 rfl) rfl (by first | decide | (simp [Value.category]; done)) (Nat.le_refl _) H (fun r M4 HH hE => ?_)
    obtain ⟨r5, hr, H⟩ := HH hE
    subst hr
    have ho1 := ok_E ho1 hE
    show T _ _ _ _ [.int r5] _ _
    refine xt_if_eq (tgt := 59) dX7_cutWord_27 (by decide) (fun hc => ?_) (fun hc => ?_)
    · have H := H.1 hc
      exact xt_sub [0, 1, 2, 3] rfl (VX7_cutWord_59 H)
    · have H := H.2 hc
      refine xt_lload_n (j := 2) dX7_cutWord_30 rfl rfl ?_
      refine xt_aload_n (j := 0) dX7_cutWord_31 rfl rfl ?_
      refine xt_aload_n (j := 0) dX7_cutWord_32 rfl rfl ?_
      refine xt_getI dX7_cutWord_33 (flX7_54 rfl) ft_9_3 ho1.1 ho1.2 ?_
      refine xt_callV (h2 := h) (as := [.int (mI M4 x0 3)]) (st := [.long x2]) dX7_cutWord_36 (mlX7_76 rfl) rfl ho1.1 ⟨by rw [ho1.2]; rfl, by rw [ho1.2]; decide⟩ (by first | decide | (simp [Value.category]; done)) (Nat.le_refl _) H (fun r M6 HH hE => ?_)
      obtain ⟨r7, hr, H⟩ := HH hE
      subst hr
      have ho1 := ok_E ho1 hE
      show T _ _ _ _ [.int r7, .long x2] _ _
      refine xt_callS (h2 := h) (as := [.long x2, .int r7]) (st := []) dX7_cutWord_39 (mlX7_41 rfl) rfl (by first | decide | (simp [Value.category]; done)) (Nat.le_refl _) H (fun r M8 HH hE => ?_)
      obtain ⟨r9, hr, H⟩ := HH hE
      subst hr
      have ho1 := ok_E ho1 hE
      show T _ _ _ _ [.long r9] _ _
      refine xt_lstore_n (lv' := [(2, .long r9), (0, .ref x0), (1, .int x1), (4, .int x4)]) dX7_cutWord_42 rfl (by decide) rfl ?_
      refine xt_iinc (j := 3) (v := x4 + 1) (lv' := [(4, .int (x4 + 1)), (2, .long r9), (0, .ref x0), (1, .int x1)]) dX7_cutWord_43 rfl (by rfl) (by decide) rfl ?_
      refine xt_aload_n (j := 2) dX7_cutWord_46 rfl rfl ?_
      refine xt_dup dX7_cutWord_47 rfl ?_
      refine xt_getI dX7_cutWord_48 (flX7_54 rfl) ft_9_3 ho1.1 ho1.2 ?_
      refine xt_iconst (v := 1) dX7_cutWord_51 (by decide) ?_
      refine xt_iadd dX7_cutWord_52 ?_
      obtain ⟨M10, eM10⟩ : ∃ z, z = wI M8 x0 3 ((mI M8 x0 3) + 1) := ⟨_, rfl⟩
      have H := H _ eM10
      refine xt_putI dX7_cutWord_53 (flX7_54 rfl) ty_9_3 rfl ho1.1 ho1.2 ?_
      have ho1 : ok M10 x0 9 := by rw [eM10]; exact ho1
      rw [← eM10]
      refine xt_goto (tgt := 5) dX7_cutWord_56 (by decide) ?_
      exact xt_sub (lv' := [(0, .ref x0), (1, .int x1), (2, .long r9), (4, .int (x4 + 1))]) [2, 3, 1, 0] rfl H
def DX7_cutWord_0 (h : Nat) (x0 : Nat) (x1 : Int32) (M : Mem) (Q : Option Value → Mem → Prop) : Prop :=
  T (h + 1) mdX7_cutWord 5 [(0, .ref x0), (1, .int x1), (2, .long 0), (4, .int 0)] [] M Q
set_option maxRecDepth 20000 in
set_option maxHeartbeats 2000000 in
theorem VX7_cutWord_0 {h : Nat} {x0 : Nat} {x1 : Int32} {M : Mem} {Q : Option Value → Mem → Prop} (H : DX7_cutWord_0 h x0 x1 M Q) : T (h + 1) mdX7_cutWord 0 [(0, .ref x0), (1, .int x1)] [] M Q := by
  unfold DX7_cutWord_0 at H
  refine xt_lconst (v := 0) dX7_cutWord_0 (by decide) ?_
  refine xt_lstore_n (lv' := [(2, .long 0), (0, .ref x0), (1, .int x1)]) dX7_cutWord_1 rfl (by decide) rfl ?_
  refine xt_iconst (v := 0) dX7_cutWord_2 (by decide) ?_
  refine xt_istore (lv' := [(4, .int 0), (2, .long 0), (0, .ref x0), (1, .int x1)]) dX7_cutWord_3 (by decide) rfl ?_
  exact xt_sub (lv' := [(0, .ref x0), (1, .int x1), (2, .long 0), (4, .int 0)]) [2, 3, 1, 0] rfl H
theorem KX7_cutWord {h : Nat} {x0 : Nat} {x1 : Int32} {M : Mem} {Q : Option Value → Mem → Prop} (H : DX7_cutWord_0 h x0 x1 M Q) : E (h + 1) mdX7_cutWord [.ref x0, .int x1] M Q := E.of (by decide) (Nat.le_of_ble_eq_true rfl) (fun _ _ _ => trivial) (VX7_cutWord_0 H)
def DX7_cutNumber_90 (h : Nat) (s0 : Nat) (s1 : Int32) (s2 : Int32) (M : Mem) (Q : Option Value → Mem → Prop) : Prop :=
  ok M s0 21 ∧ vp_in s1 (mL M s0) ∧ ∀ M2 : Mem, M2 = wAI M s0 (s1 : Int32).toNatClampNeg s2 →
  Q none M2
set_option maxRecDepth 20000 in
set_option maxHeartbeats 2000000 in
theorem VX7_cutNumber_90 {h : Nat} {s0 : Nat} {s1 : Int32} {s2 : Int32} {M : Mem} {Q : Option Value → Mem → Prop} (H : DX7_cutNumber_90 h s0 s1 s2 M Q) : T (h + 1) mdX7_cutNumber 90 [] [.int s2, .int s1, .ref s0] M Q := by
  unfold DX7_cutNumber_90 at H
  obtain ⟨ho1, H⟩ := H
  obtain ⟨hi, H⟩ := H
  obtain ⟨M2, eM2⟩ : ∃ z, z = wAI M s0 (s1 : Int32).toNatClampNeg s2 := ⟨_, rfl⟩
  have H := H _ eM2
  refine xt_iast dX7_cutNumber_90 ho1.1 ho1.2 hi ?_
  rw [← eM2]
  exact xt_return dX7_cutNumber_91 rfl H
def DX7_cutNumber_66 (h : Nat) (x0 : Nat) (x1 : Int32) (x2 : Int64) (x4 : Int32) (M : Mem) (Q : Option Value → Mem → Prop) : Prop :=
  ok M x0 9 ∧ ∃ b2 : Nat, mR M x0 6 = some b2 ∧ ok M b2 23 ∧ vp_in x1 (mL M b2) ∧ ∀ M4 : Mem, M4 = wAJ M b2 (x1 : Int32).toNatClampNeg x2 →
  ∃ b5 : Nat, mR M4 x0 4 = some b5 ∧ (x4 ≤ 6 → DX7_cutNumber_90 h b5 x1 3 M4 Q) ∧
  (¬ (x4 ≤ 6) → DX7_cutNumber_90 h b5 x1 0 M4 Q)
set_option maxRecDepth 20000 in
set_option maxHeartbeats 2000000 in
theorem VX7_cutNumber_66 {h : Nat} {x0 : Nat} {x1 : Int32} {x2 : Int64} {x4 : Int32} {M : Mem} {Q : Option Value → Mem → Prop} (H : DX7_cutNumber_66 h x0 x1 x2 x4 M Q) : T (h + 1) mdX7_cutNumber 66 [(0, .ref x0), (1, .int x1), (2, .long x2), (4, .int x4)] [] M Q := by
  unfold DX7_cutNumber_66 at H
  refine xt_aload_n (j := 0) dX7_cutNumber_66 rfl rfl ?_
  obtain ⟨ho1, H⟩ := H
  obtain ⟨b2, hb, H⟩ := H
  refine xt_getR dX7_cutNumber_67 (flX7_18 rfl) ft_9_6 ho1.1 ho1.2 hb ?_
  refine xt_iload_n (j := 1) dX7_cutNumber_70 rfl rfl ?_
  refine xt_lload_n (j := 2) dX7_cutNumber_71 rfl rfl ?_
  obtain ⟨ho3, H⟩ := H
  obtain ⟨hi, H⟩ := H
  obtain ⟨M4, eM4⟩ : ∃ z, z = wAJ M b2 (x1 : Int32).toNatClampNeg x2 := ⟨_, rfl⟩
  have H := H _ eM4
  refine xt_last dX7_cutNumber_72 ho3.1 ho3.2 hi ?_
  have ho1 : ok M4 x0 9 := by rw [eM4]; exact ho1
  rw [← eM4]
  refine xt_aload_n (j := 0) dX7_cutNumber_73 rfl rfl ?_
  obtain ⟨b5, hb, H⟩ := H
  refine xt_getR dX7_cutNumber_74 (flX7_9 rfl) ft_9_4 ho1.1 ho1.2 hb ?_
  refine xt_iload_n (j := 1) dX7_cutNumber_77 rfl rfl ?_
  refine xt_iload (j := 3) dX7_cutNumber_78 rfl ?_
  refine xt_bipush (v := 6) dX7_cutNumber_80 (by decide) ?_
  refine xt_icmp_le (tgt := 89) dX7_cutNumber_82 (by decide) (fun hc => ?_) (fun hc => ?_)
  · have H := H.1 hc
    refine xt_iconst (v := 3) dX7_cutNumber_89 (by decide) ?_
    exact xt_sub [] rfl (VX7_cutNumber_90 H)
  · have H := H.2 hc
    refine xt_iconst (v := 0) dX7_cutNumber_85 (by decide) ?_
    refine xt_goto (tgt := 90) dX7_cutNumber_86 (by decide) ?_
    exact xt_sub [] rfl (VX7_cutNumber_90 H)
def DX7_cutNumber_5 (h : Nat) (x0 : Nat) (x1 : Int32) (x2 : Int64) (x4 : Int32) (M : Mem) (Q : Option Value → Mem → Prop) : Prop :=
  ok M x0 9 ∧ ((mI M x0 2) ≤ (mI M x0 3) → DX7_cutNumber_66 h x0 x1 x2 x4 M Q) ∧
  (¬ ((mI M x0 2) ≤ (mI M x0 3)) → E h mdX7_byteAt [.ref x0, .int (mI M x0 3)] M (fun r M2 => mE M M2 → ∃ r3 : Int32, r = some (.int r3) ∧ E h mdX7_isFigure [.int r3] M2 (fun r M4 => mE M2 M4 → ∃ r5 : Int32, r = some (.int r5) ∧ (r5 = 0 → DX7_cutNumber_66 h x0 x1 x2 x4 M4 Q) ∧
  (¬ (r5 = 0) → E h mdX7_byteAt [.ref x0, .int (mI M4 x0 3)] M4 (fun r M6 => mE M4 M6 → ∃ r7 : Int32, r = some (.int r7) ∧ ∀ M8 : Mem, M8 = wI M6 x0 3 ((mI M6 x0 3) + 1) →
  T (h + 1) mdX7_cutNumber 5 [(0, .ref x0), (1, .int x1), (2, .long (((x2 * 10) + ((r7 : Int32).toInt64)) - 48)), (4, .int (x4 + 1))] [] M8 Q)))))
set_option maxRecDepth 20000 in
set_option maxHeartbeats 2000000 in
theorem VX7_cutNumber_5 {h : Nat} {x0 : Nat} {x1 : Int32} {x2 : Int64} {x4 : Int32} {M : Mem} {Q : Option Value → Mem → Prop} (H : DX7_cutNumber_5 h x0 x1 x2 x4 M Q) : T (h + 1) mdX7_cutNumber 5 [(0, .ref x0), (1, .int x1), (2, .long x2), (4, .int x4)] [] M Q := by
  unfold DX7_cutNumber_5 at H
  refine xt_aload_n (j := 0) dX7_cutNumber_5 rfl rfl ?_
  obtain ⟨ho1, H⟩ := H
  refine xt_getI dX7_cutNumber_6 (flX7_54 rfl) ft_9_3 ho1.1 ho1.2 ?_
  refine xt_aload_n (j := 0) dX7_cutNumber_9 rfl rfl ?_
  refine xt_getI dX7_cutNumber_10 (flX7_51 rfl) ft_9_2 ho1.1 ho1.2 ?_
  refine xt_icmp_ge (tgt := 66) dX7_cutNumber_13 (by decide) (fun hc => ?_) (fun hc => ?_)
  · have H := H.1 hc
    exact xt_sub [0, 1, 2, 3] rfl (VX7_cutNumber_66 H)
  · have H := H.2 hc
    refine xt_aload_n (j := 0) dX7_cutNumber_16 rfl rfl ?_
    refine xt_aload_n (j := 0) dX7_cutNumber_17 rfl rfl ?_
    refine xt_getI dX7_cutNumber_18 (flX7_54 rfl) ft_9_3 ho1.1 ho1.2 ?_
    refine xt_callV (h2 := h) (as := [.int (mI M x0 3)]) (st := []) dX7_cutNumber_21 (mlX7_76 rfl) rfl ho1.1 ⟨by rw [ho1.2]; rfl, by rw [ho1.2]; decide⟩ (by first | decide | (simp [Value.category]; done)) (Nat.le_refl _) H (fun r M2 HH hE => ?_)
    obtain ⟨r3, hr, H⟩ := HH hE
    subst hr
    have ho1 := ok_E ho1 hE
    show T _ _ _ _ [.int r3] _ _
    refine xt_callS (h2 := h) (as := [.int r3]) (st := []) dX7_cutNumber_24 (mlX7_87 rfl) rfl (by first | decide | (simp [Value.category]; done)) (Nat.le_refl _) H (fun r M4 HH hE => ?_)
    obtain ⟨r5, hr, H⟩ := HH hE
    subst hr
    have ho1 := ok_E ho1 hE
    show T _ _ _ _ [.int r5] _ _
    refine xt_if_eq (tgt := 66) dX7_cutNumber_27 (by decide) (fun hc => ?_) (fun hc => ?_)
    · have H := H.1 hc
      exact xt_sub [0, 1, 2, 3] rfl (VX7_cutNumber_66 H)
    · have H := H.2 hc
      refine xt_lload_n (j := 2) dX7_cutNumber_30 rfl rfl ?_
      refine xt_ldc2 (v := 10) dX7_cutNumber_31 (ctX7_109 rfl) ?_
      refine xt_lmul dX7_cutNumber_34 ?_
      refine xt_aload_n (j := 0) dX7_cutNumber_35 rfl rfl ?_
      refine xt_aload_n (j := 0) dX7_cutNumber_36 rfl rfl ?_
      refine xt_getI dX7_cutNumber_37 (flX7_54 rfl) ft_9_3 ho1.1 ho1.2 ?_
      refine xt_callV (h2 := h) (as := [.int (mI M4 x0 3)]) (st := [.long (x2 * 10)]) dX7_cutNumber_40 (mlX7_76 rfl) rfl ho1.1 ⟨by rw [ho1.2]; rfl, by rw [ho1.2]; decide⟩ (by first | decide | (simp [Value.category]; done)) (Nat.le_refl _) H (fun r M6 HH hE => ?_)
      obtain ⟨r7, hr, H⟩ := HH hE
      subst hr
      have ho1 := ok_E ho1 hE
      show T _ _ _ _ [.int r7, .long (x2 * 10)] _ _
      refine xt_i2l dX7_cutNumber_43 ?_
      refine xt_ladd dX7_cutNumber_44 ?_
      refine xt_ldc2 (v := 48) dX7_cutNumber_45 (ctX7_111 rfl) ?_
      refine xt_lsub dX7_cutNumber_48 ?_
      refine xt_lstore_n (lv' := [(2, .long (((x2 * 10) + ((r7 : Int32).toInt64)) - 48)), (0, .ref x0), (1, .int x1), (4, .int x4)]) dX7_cutNumber_49 rfl (by decide) rfl ?_
      refine xt_iinc (j := 3) (v := x4 + 1) (lv' := [(4, .int (x4 + 1)), (2, .long (((x2 * 10) + ((r7 : Int32).toInt64)) - 48)), (0, .ref x0), (1, .int x1)]) dX7_cutNumber_50 rfl (by rfl) (by decide) rfl ?_
      refine xt_aload_n (j := 2) dX7_cutNumber_53 rfl rfl ?_
      refine xt_dup dX7_cutNumber_54 rfl ?_
      refine xt_getI dX7_cutNumber_55 (flX7_54 rfl) ft_9_3 ho1.1 ho1.2 ?_
      refine xt_iconst (v := 1) dX7_cutNumber_58 (by decide) ?_
      refine xt_iadd dX7_cutNumber_59 ?_
      obtain ⟨M8, eM8⟩ : ∃ z, z = wI M6 x0 3 ((mI M6 x0 3) + 1) := ⟨_, rfl⟩
      have H := H _ eM8
      refine xt_putI dX7_cutNumber_60 (flX7_54 rfl) ty_9_3 rfl ho1.1 ho1.2 ?_
      have ho1 : ok M8 x0 9 := by rw [eM8]; exact ho1
      rw [← eM8]
      refine xt_goto (tgt := 5) dX7_cutNumber_63 (by decide) ?_
      exact xt_sub (lv' := [(0, .ref x0), (1, .int x1), (2, .long (((x2 * 10) + ((r7 : Int32).toInt64)) - 48)), (4, .int (x4 + 1))]) [2, 3, 1, 0] rfl H
def DX7_cutNumber_0 (h : Nat) (x0 : Nat) (x1 : Int32) (M : Mem) (Q : Option Value → Mem → Prop) : Prop :=
  T (h + 1) mdX7_cutNumber 5 [(0, .ref x0), (1, .int x1), (2, .long 0), (4, .int 0)] [] M Q
set_option maxRecDepth 20000 in
set_option maxHeartbeats 2000000 in
theorem VX7_cutNumber_0 {h : Nat} {x0 : Nat} {x1 : Int32} {M : Mem} {Q : Option Value → Mem → Prop} (H : DX7_cutNumber_0 h x0 x1 M Q) : T (h + 1) mdX7_cutNumber 0 [(0, .ref x0), (1, .int x1)] [] M Q := by
  unfold DX7_cutNumber_0 at H
  refine xt_lconst (v := 0) dX7_cutNumber_0 (by decide) ?_
  refine xt_lstore_n (lv' := [(2, .long 0), (0, .ref x0), (1, .int x1)]) dX7_cutNumber_1 rfl (by decide) rfl ?_
  refine xt_iconst (v := 0) dX7_cutNumber_2 (by decide) ?_
  refine xt_istore (lv' := [(4, .int 0), (2, .long 0), (0, .ref x0), (1, .int x1)]) dX7_cutNumber_3 (by decide) rfl ?_
  exact xt_sub (lv' := [(0, .ref x0), (1, .int x1), (2, .long 0), (4, .int 0)]) [2, 3, 1, 0] rfl H
theorem KX7_cutNumber {h : Nat} {x0 : Nat} {x1 : Int32} {M : Mem} {Q : Option Value → Mem → Prop} (H : DX7_cutNumber_0 h x0 x1 M Q) : E (h + 1) mdX7_cutNumber [.ref x0, .int x1] M Q := E.of (by decide) (Nat.le_of_ble_eq_true rfl) (fun _ _ _ => trivial) (VX7_cutNumber_0 H)
def DX7_withNext_0 (h : Nat) (x0 : Nat) (x1 : Int32) (x2 : Int32) (x3 : Int32) (M : Mem) (Q : Option Value → Mem → Prop) : Prop :=
  ok M x0 9 ∧ E h mdX7_byteAt [.ref x0, .int (mI M x0 3)] M (fun r M2 => mE M M2 → ∃ r3 : Int32, r = some (.int r3) ∧ (r3 = x1 → ∀ M4 : Mem, M4 = wI M2 x0 3 ((mI M2 x0 3) + 1) →
  Q (some (.int x2)) M4) ∧
  (¬ (r3 = x1) → Q (some (.int x3)) M2))
set_option maxRecDepth 20000 in
set_option maxHeartbeats 2000000 in
theorem VX7_withNext_0 {h : Nat} {x0 : Nat} {x1 : Int32} {x2 : Int32} {x3 : Int32} {M : Mem} {Q : Option Value → Mem → Prop} (H : DX7_withNext_0 h x0 x1 x2 x3 M Q) : T (h + 1) mdX7_withNext 0 [(0, .ref x0), (1, .int x1), (2, .int x2), (3, .int x3)] [] M Q := by
  unfold DX7_withNext_0 at H
  refine xt_aload_n (j := 0) dX7_withNext_0 rfl rfl ?_
  refine xt_aload_n (j := 0) dX7_withNext_1 rfl rfl ?_
  obtain ⟨ho1, H⟩ := H
  refine xt_getI dX7_withNext_2 (flX7_54 rfl) ft_9_3 ho1.1 ho1.2 ?_
  refine xt_callV (h2 := h) (as := [.int (mI M x0 3)]) (st := []) dX7_withNext_5 (mlX7_76 rfl) rfl ho1.1 ⟨by rw [ho1.2]; rfl, by rw [ho1.2]; decide⟩ (by first | decide | (simp [Value.category]; done)) (Nat.le_refl _) H (fun r M2 HH hE => ?_)
  obtain ⟨r3, hr, H⟩ := HH hE
  subst hr
  have ho1 := ok_E ho1 hE
  show T _ _ _ _ [.int r3] _ _
  refine xt_iload_n (j := 1) dX7_withNext_8 rfl rfl ?_
  refine xt_icmp_eq (tgt := 14) dX7_withNext_9 (by decide) (fun hc => ?_) (fun hc => ?_)
  · have H := H.1 hc
    refine xt_aload_n (j := 0) dX7_withNext_14 rfl rfl ?_
    refine xt_dup dX7_withNext_15 rfl ?_
    refine xt_getI dX7_withNext_16 (flX7_54 rfl) ft_9_3 ho1.1 ho1.2 ?_
    refine xt_iconst (v := 1) dX7_withNext_19 (by decide) ?_
    refine xt_iadd dX7_withNext_20 ?_
    obtain ⟨M4, eM4⟩ : ∃ z, z = wI M2 x0 3 ((mI M2 x0 3) + 1) := ⟨_, rfl⟩
    have H := H _ eM4
    refine xt_putI dX7_withNext_21 (flX7_54 rfl) ty_9_3 rfl ho1.1 ho1.2 ?_
    have ho1 : ok M4 x0 9 := by rw [eM4]; exact ho1
    rw [← eM4]
    refine xt_iload_n (j := 2) dX7_withNext_24 rfl rfl ?_
    exact xt_ireturn dX7_withNext_25 rfl H
  · have H := H.2 hc
    refine xt_iload_n (j := 3) dX7_withNext_12 rfl rfl ?_
    exact xt_ireturn dX7_withNext_13 rfl H
theorem KX7_withNext {h : Nat} {x0 : Nat} {x1 : Int32} {x2 : Int32} {x3 : Int32} {M : Mem} {Q : Option Value → Mem → Prop} (H : DX7_withNext_0 h x0 x1 x2 x3 M Q) : E (h + 1) mdX7_withNext [.ref x0, .int x1, .int x2, .int x3] M Q := E.of (by decide) (Nat.le_of_ble_eq_true rfl) (fun _ _ _ => trivial) (VX7_withNext_0 H)
def DX7_byteAt_22 (h : Nat) (s0 : Int32) (M : Mem) (Q : Option Value → Mem → Prop) : Prop :=
  Q (some (.int s0)) M
set_option maxRecDepth 20000 in
set_option maxHeartbeats 2000000 in
theorem VX7_byteAt_22 {h : Nat} {s0 : Int32} {M : Mem} {Q : Option Value → Mem → Prop} (H : DX7_byteAt_22 h s0 M Q) : T (h + 1) mdX7_byteAt 22 [] [.int s0] M Q := by
  unfold DX7_byteAt_22 at H
  exact xt_ireturn dX7_byteAt_22 rfl H
def DX7_byteAt_0 (h : Nat) (x0 : Nat) (x1 : Int32) (M : Mem) (Q : Option Value → Mem → Prop) : Prop :=
  ok M x0 9 ∧ ((mI M x0 2) ≤ x1 → DX7_byteAt_22 h 0 M Q) ∧
  (¬ ((mI M x0 2) ≤ x1) → ∃ b2 : Nat, mR M x0 0 = some b2 ∧ ok M b2 20 ∧ vp_in x1 (mL M b2) ∧ DX7_byteAt_22 h ((mAI M b2 (x1 : Int32).toNatClampNeg) &&& 255) M Q)
set_option maxRecDepth 20000 in
set_option maxHeartbeats 2000000 in
theorem VX7_byteAt_0 {h : Nat} {x0 : Nat} {x1 : Int32} {M : Mem} {Q : Option Value → Mem → Prop} (H : DX7_byteAt_0 h x0 x1 M Q) : T (h + 1) mdX7_byteAt 0 [(0, .ref x0), (1, .int x1)] [] M Q := by
  unfold DX7_byteAt_0 at H
  refine xt_iload_n (j := 1) dX7_byteAt_0 rfl rfl ?_
  refine xt_aload_n (j := 0) dX7_byteAt_1 rfl rfl ?_
  obtain ⟨ho1, H⟩ := H
  refine xt_getI dX7_byteAt_2 (flX7_51 rfl) ft_9_2 ho1.1 ho1.2 ?_
  refine xt_icmp_ge (tgt := 21) dX7_byteAt_5 (by decide) (fun hc => ?_) (fun hc => ?_)
  · have H := H.1 hc
    refine xt_iconst (v := 0) dX7_byteAt_21 (by decide) ?_
    exact xt_sub [] rfl (VX7_byteAt_22 H)
  · have H := H.2 hc
    refine xt_aload_n (j := 0) dX7_byteAt_8 rfl rfl ?_
    obtain ⟨b2, hb, H⟩ := H
    refine xt_getR dX7_byteAt_9 (flX7_22 rfl) ft_9_0 ho1.1 ho1.2 hb ?_
    refine xt_iload_n (j := 1) dX7_byteAt_12 rfl rfl ?_
    obtain ⟨ho3, H⟩ := H
    obtain ⟨hi, H⟩ := H
    refine xt_bald dX7_byteAt_13 ho3.1 ho3.2 hi ?_
    refine xt_sipush (v := 255) dX7_byteAt_14 (by decide) ?_
    refine xt_iand dX7_byteAt_17 ?_
    refine xt_goto (tgt := 22) dX7_byteAt_18 (by decide) ?_
    exact xt_sub [] rfl (VX7_byteAt_22 H)
theorem KX7_byteAt {h : Nat} {x0 : Nat} {x1 : Int32} {M : Mem} {Q : Option Value → Mem → Prop} (H : DX7_byteAt_0 h x0 x1 M Q) : E (h + 1) mdX7_byteAt [.ref x0, .int x1] M Q := E.of (by decide) (Nat.le_of_ble_eq_true rfl) (fun _ _ _ => trivial) (VX7_byteAt_0 H)
def DX7_spelled_0 (h : Nat) (x0 : Int64) (x2 : Int32) (M : Mem) (Q : Option Value → Mem → Prop) : Prop :=
  Q (some (.long ((((x0 * 32) + ((x2 : Int32).toInt64)) - 97) + 1))) M
set_option maxRecDepth 20000 in
set_option maxHeartbeats 2000000 in
theorem VX7_spelled_0 {h : Nat} {x0 : Int64} {x2 : Int32} {M : Mem} {Q : Option Value → Mem → Prop} (H : DX7_spelled_0 h x0 x2 M Q) : T (h + 1) mdX7_spelled 0 [(0, .long x0), (2, .int x2)] [] M Q := by
  unfold DX7_spelled_0 at H
  refine xt_lload_n (j := 0) dX7_spelled_0 rfl rfl ?_
  refine xt_ldc2 (v := 32) dX7_spelled_1 (ctX7_122 rfl) ?_
  refine xt_lmul dX7_spelled_4 ?_
  refine xt_iload_n (j := 1) dX7_spelled_5 rfl rfl ?_
  refine xt_i2l dX7_spelled_6 ?_
  refine xt_ladd dX7_spelled_7 ?_
  refine xt_ldc2 (v := 97) dX7_spelled_8 (ctX7_124 rfl) ?_
  refine xt_lsub dX7_spelled_11 ?_
  refine xt_lconst (v := 1) dX7_spelled_12 (by decide) ?_
  refine xt_ladd dX7_spelled_13 ?_
  exact xt_lreturn dX7_spelled_14 rfl H
theorem KX7_spelled {h : Nat} {x0 : Int64} {x2 : Int32} {M : Mem} {Q : Option Value → Mem → Prop} (H : DX7_spelled_0 h x0 x2 M Q) : E (h + 1) mdX7_spelled [.long x0, .int x2] M Q := E.of (by decide) (Nat.le_of_ble_eq_true rfl) (fun _ _ _ => trivial) (VX7_spelled_0 H)
def DX7_isLetter_17 (h : Nat) (s0 : Int32) (M : Mem) (Q : Option Value → Mem → Prop) : Prop :=
  (s0 = 0 ∨ s0 = 1) ∧ Q (some (.int s0)) M
set_option maxRecDepth 20000 in
set_option maxHeartbeats 2000000 in
theorem VX7_isLetter_17 {h : Nat} {s0 : Int32} {M : Mem} {Q : Option Value → Mem → Prop} (H : DX7_isLetter_17 h s0 M Q) : T (h + 1) mdX7_isLetter 17 [] [.int s0] M Q := by
  unfold DX7_isLetter_17 at H
  exact xt_zreturn dX7_isLetter_17 rfl H.1 H.2
def DX7_isLetter_16 (h : Nat) (M : Mem) (Q : Option Value → Mem → Prop) : Prop :=
  DX7_isLetter_17 h 0 M Q
set_option maxRecDepth 20000 in
set_option maxHeartbeats 2000000 in
theorem VX7_isLetter_16 {h : Nat} {M : Mem} {Q : Option Value → Mem → Prop} (H : DX7_isLetter_16 h  M Q) : T (h + 1) mdX7_isLetter 16 [] [] M Q := by
  unfold DX7_isLetter_16 at H
  refine xt_iconst (v := 0) dX7_isLetter_16 (by decide) ?_
  exact xt_sub [] rfl (VX7_isLetter_17 H)
def DX7_isLetter_0 (h : Nat) (x0 : Int32) (M : Mem) (Q : Option Value → Mem → Prop) : Prop :=
  (x0 < 97 → DX7_isLetter_16 h  M Q) ∧
  (¬ (x0 < 97) → (122 < x0 → DX7_isLetter_16 h  M Q) ∧
  (¬ (122 < x0) → DX7_isLetter_17 h 1 M Q))
set_option maxRecDepth 20000 in
set_option maxHeartbeats 2000000 in
theorem VX7_isLetter_0 {h : Nat} {x0 : Int32} {M : Mem} {Q : Option Value → Mem → Prop} (H : DX7_isLetter_0 h x0 M Q) : T (h + 1) mdX7_isLetter 0 [(0, .int x0)] [] M Q := by
  unfold DX7_isLetter_0 at H
  refine xt_iload_n (j := 0) dX7_isLetter_0 rfl rfl ?_
  refine xt_bipush (v := 97) dX7_isLetter_1 (by decide) ?_
  refine xt_icmp_lt (tgt := 16) dX7_isLetter_3 (by decide) (fun hc => ?_) (fun hc => ?_)
  · have H := H.1 hc
    exact xt_sub [] rfl (VX7_isLetter_16 H)
  · have H := H.2 hc
    refine xt_iload_n (j := 0) dX7_isLetter_6 rfl rfl ?_
    refine xt_bipush (v := 122) dX7_isLetter_7 (by decide) ?_
    refine xt_icmp_gt (tgt := 16) dX7_isLetter_9 (by decide) (fun hc => ?_) (fun hc => ?_)
    · have H := H.1 hc
      exact xt_sub [] rfl (VX7_isLetter_16 H)
    · have H := H.2 hc
      refine xt_iconst (v := 1) dX7_isLetter_12 (by decide) ?_
      refine xt_goto (tgt := 17) dX7_isLetter_13 (by decide) ?_
      exact xt_sub [] rfl (VX7_isLetter_17 H)
theorem KX7_isLetter {h : Nat} {x0 : Int32} {M : Mem} {Q : Option Value → Mem → Prop} (H : DX7_isLetter_0 h x0 M Q) : E (h + 1) mdX7_isLetter [.int x0] M Q := E.of (by decide) (Nat.le_of_ble_eq_true rfl) (fun _ _ _ => trivial) (VX7_isLetter_0 H)
def DX7_isFigure_17 (h : Nat) (s0 : Int32) (M : Mem) (Q : Option Value → Mem → Prop) : Prop :=
  (s0 = 0 ∨ s0 = 1) ∧ Q (some (.int s0)) M
set_option maxRecDepth 20000 in
set_option maxHeartbeats 2000000 in
theorem VX7_isFigure_17 {h : Nat} {s0 : Int32} {M : Mem} {Q : Option Value → Mem → Prop} (H : DX7_isFigure_17 h s0 M Q) : T (h + 1) mdX7_isFigure 17 [] [.int s0] M Q := by
  unfold DX7_isFigure_17 at H
  exact xt_zreturn dX7_isFigure_17 rfl H.1 H.2
def DX7_isFigure_16 (h : Nat) (M : Mem) (Q : Option Value → Mem → Prop) : Prop :=
  DX7_isFigure_17 h 0 M Q
set_option maxRecDepth 20000 in
set_option maxHeartbeats 2000000 in
theorem VX7_isFigure_16 {h : Nat} {M : Mem} {Q : Option Value → Mem → Prop} (H : DX7_isFigure_16 h  M Q) : T (h + 1) mdX7_isFigure 16 [] [] M Q := by
  unfold DX7_isFigure_16 at H
  refine xt_iconst (v := 0) dX7_isFigure_16 (by decide) ?_
  exact xt_sub [] rfl (VX7_isFigure_17 H)
def DX7_isFigure_0 (h : Nat) (x0 : Int32) (M : Mem) (Q : Option Value → Mem → Prop) : Prop :=
  (x0 < 48 → DX7_isFigure_16 h  M Q) ∧
  (¬ (x0 < 48) → (57 < x0 → DX7_isFigure_16 h  M Q) ∧
  (¬ (57 < x0) → DX7_isFigure_17 h 1 M Q))
set_option maxRecDepth 20000 in
set_option maxHeartbeats 2000000 in
theorem VX7_isFigure_0 {h : Nat} {x0 : Int32} {M : Mem} {Q : Option Value → Mem → Prop} (H : DX7_isFigure_0 h x0 M Q) : T (h + 1) mdX7_isFigure 0 [(0, .int x0)] [] M Q := by
  unfold DX7_isFigure_0 at H
  refine xt_iload_n (j := 0) dX7_isFigure_0 rfl rfl ?_
  refine xt_bipush (v := 48) dX7_isFigure_1 (by decide) ?_
  refine xt_icmp_lt (tgt := 16) dX7_isFigure_3 (by decide) (fun hc => ?_) (fun hc => ?_)
  · have H := H.1 hc
    exact xt_sub [] rfl (VX7_isFigure_16 H)
  · have H := H.2 hc
    refine xt_iload_n (j := 0) dX7_isFigure_6 rfl rfl ?_
    refine xt_bipush (v := 57) dX7_isFigure_7 (by decide) ?_
    refine xt_icmp_gt (tgt := 16) dX7_isFigure_9 (by decide) (fun hc => ?_) (fun hc => ?_)
    · have H := H.1 hc
      exact xt_sub [] rfl (VX7_isFigure_16 H)
    · have H := H.2 hc
      refine xt_iconst (v := 1) dX7_isFigure_12 (by decide) ?_
      refine xt_goto (tgt := 17) dX7_isFigure_13 (by decide) ?_
      exact xt_sub [] rfl (VX7_isFigure_17 H)
theorem KX7_isFigure {h : Nat} {x0 : Int32} {M : Mem} {Q : Option Value → Mem → Prop} (H : DX7_isFigure_0 h x0 M Q) : E (h + 1) mdX7_isFigure [.int x0] M Q := E.of (by decide) (Nat.le_of_ble_eq_true rfl) (fun _ _ _ => trivial) (VX7_isFigure_0 H)
