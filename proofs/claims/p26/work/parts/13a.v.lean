def DX0_init_0 (h : Nat) (x0 : Nat) (M : Mem) (Q : Option Value → Mem → Prop) : Prop :=
  ¬ (64 : Int32) < 0 ∧ ((64 : Int32).toNatClampNeg ≤ 100000000) ∧ ∀ (q2 : Nat) (M1 : Mem), q2 = mN M → M1 = nwA M 21 ((64 : Int32).toNatClampNeg) →
  ok M1 x0 2 ∧ ∀ M4 : Mem, M4 = wR M1 x0 0 (some q2) →
  ¬ (64 : Int32) < 0 ∧ ((64 : Int32).toNatClampNeg ≤ 100000000) ∧ ∀ (q6 : Nat) (M5 : Mem), q6 = mN M4 → M5 = nwA M4 21 ((64 : Int32).toNatClampNeg) →
  ∀ M7 : Mem, M7 = wR M5 x0 1 (some q6) →
  ¬ (0 : Int32) < 0 ∧ ((0 : Int32).toNatClampNeg ≤ 100000000) ∧ ∀ (q9 : Nat) (M8 : Mem), q9 = mN M7 → M8 = nwA M7 21 ((0 : Int32).toNatClampNeg) →
  ∀ M10 : Mem, M10 = wR M8 x0 2 (some q9) →
  ¬ (0 : Int32) < 0 ∧ ((0 : Int32).toNatClampNeg ≤ 100000000) ∧ ∀ (q12 : Nat) (M11 : Mem), q12 = mN M10 → M11 = nwA M10 21 ((0 : Int32).toNatClampNeg) →
  ∀ M13 : Mem, M13 = wR M11 x0 3 (some q12) →
  ∀ M14 : Mem, M14 = wI M13 x0 4 1 →
  ∀ (q16 : Nat) (M15 : Mem), q16 = mN M14 → M15 = nwO M14 1 3 →
  E h mdJx4a65c_init_da8c8 [.ref q16] M15 (fun r M17 => mE M15 M17 → r = none ∧ ∀ M18 : Mem, M18 = wR M17 x0 5 (some q16) →
  ∀ (q20 : Nat) (M19 : Mem), q20 = mN M18 → M19 = nwO M18 1 3 →
  E h mdJx4a65c_init_da8c8 [.ref q20] M19 (fun r M21 => mE M19 M21 → r = none ∧ ∀ M22 : Mem, M22 = wR M21 x0 6 (some q20) →
  ∀ (q24 : Nat) (M23 : Mem), q24 = mN M22 → M23 = nwO M22 1 3 →
  E h mdJx4a65c_init_da8c8 [.ref q24] M23 (fun r M25 => mE M23 M25 → r = none ∧ ∀ M26 : Mem, M26 = wR M25 x0 7 (some q24) →
  ¬ (16 : Int32) < 0 ∧ ((16 : Int32).toNatClampNeg ≤ 100000000) ∧ ∀ (q28 : Nat) (M27 : Mem), q28 = mN M26 → M27 = nwA M26 21 ((16 : Int32).toNatClampNeg) →
  ∀ M29 : Mem, M29 = wR M27 x0 8 (some q28) →
  ¬ (24 : Int32) < 0 ∧ ((24 : Int32).toNatClampNeg ≤ 100000000) ∧ ∀ (q31 : Nat) (M30 : Mem), q31 = mN M29 → M30 = nwA M29 21 ((24 : Int32).toNatClampNeg) →
  ∀ M32 : Mem, M32 = wR M30 x0 9 (some q31) →
  ¬ (24 : Int32) < 0 ∧ ((24 : Int32).toNatClampNeg ≤ 100000000) ∧ ∀ (q34 : Nat) (M33 : Mem), q34 = mN M32 → M33 = nwA M32 21 ((24 : Int32).toNatClampNeg) →
  ∀ M35 : Mem, M35 = wR M33 x0 10 (some q34) →
  ¬ (24 : Int32) < 0 ∧ ((24 : Int32).toNatClampNeg ≤ 100000000) ∧ ∀ (q37 : Nat) (M36 : Mem), q37 = mN M35 → M36 = nwA M35 21 ((24 : Int32).toNatClampNeg) →
  ∀ M38 : Mem, M38 = wR M36 x0 11 (some q37) →
  ¬ (16 : Int32) < 0 ∧ ((16 : Int32).toNatClampNeg ≤ 100000000) ∧ ∀ (q40 : Nat) (M39 : Mem), q40 = mN M38 → M39 = nwA M38 21 ((16 : Int32).toNatClampNeg) →
  ∀ M41 : Mem, M41 = wR M39 x0 13 (some q40) →
  ¬ (16 : Int32) < 0 ∧ ((16 : Int32).toNatClampNeg ≤ 100000000) ∧ ∀ (q43 : Nat) (M42 : Mem), q43 = mN M41 → M42 = nwA M41 21 ((16 : Int32).toNatClampNeg) →
  ∀ M44 : Mem, M44 = wR M42 x0 14 (some q43) →
  E h mdX0_fresh [.ref x0] M44 (fun r M45 => mE M44 M45 → ∃ r46 : Int32, r = some (.int r46) ∧ ∀ M47 : Mem, M47 = wI M45 x0 15 r46 →
  Q none M47))))
set_option maxRecDepth 20000 in
set_option maxHeartbeats 2000000 in
theorem VX0_init_0 {h : Nat} {x0 : Nat} {M : Mem} {Q : Option Value → Mem → Prop} (H : DX0_init_0 h x0 M Q) : T (h + 1) mdX0_init 0 [(0, .ref x0)] [] M Q := by
  unfold DX0_init_0 at H
  refine xt_aload_n (j := 0) dX0_init_0 rfl rfl ?_
  refine xt_objInit dX0_init_1 (oiX0_1 rfl) (by decide) (Nat.succ_le_succ (Nat.zero_le _)) ?_
  refine xt_aload_n (j := 0) dX0_init_4 rfl rfl ?_
  refine xt_bipush (v := 64) dX0_init_5 (by decide) ?_
  obtain ⟨hn, hy, H⟩ := H
  obtain ⟨M1, eM1⟩ : ∃ z, z = nwA M 21 ((64 : Int32).toNatClampNeg) := ⟨_, rfl⟩
  obtain ⟨q2, eq2⟩ : ∃ z, z = mN M := ⟨_, rfl⟩
  have H := H _ _ eq2 eM1
  refine xt_newI dX0_init_7 ac_I hn rfl hy ?_
  rw [← eM1, ← eq2]
  obtain ⟨ho3, H⟩ := H
  obtain ⟨M4, eM4⟩ : ∃ z, z = wR M1 x0 0 (some q2) := ⟨_, rfl⟩
  have H := H _ eM4
  refine xt_putR dX0_init_9 (flX0_9 rfl) ft_2_0 rfl ho3.1 ho3.2 ?_
  have ho3 : ok M4 x0 2 := by rw [eM4]; exact ho3
  rw [← eM4]
  refine xt_aload_n (j := 0) dX0_init_12 rfl rfl ?_
  refine xt_bipush (v := 64) dX0_init_13 (by decide) ?_
  obtain ⟨hn, hy, H⟩ := H
  obtain ⟨M5, eM5⟩ : ∃ z, z = nwA M4 21 ((64 : Int32).toNatClampNeg) := ⟨_, rfl⟩
  obtain ⟨q6, eq6⟩ : ∃ z, z = mN M4 := ⟨_, rfl⟩
  have H := H _ _ eq6 eM5
  refine xt_newI dX0_init_15 ac_I hn rfl hy ?_
  have ho3 : ok M5 x0 2 := by rw [eM5]; exact ok_nwA ho3
  rw [← eM5, ← eq6]
  obtain ⟨M7, eM7⟩ : ∃ z, z = wR M5 x0 1 (some q6) := ⟨_, rfl⟩
  have H := H _ eM7
  refine xt_putR dX0_init_17 (flX0_13 rfl) ft_2_1 rfl ho3.1 ho3.2 ?_
  have ho3 : ok M7 x0 2 := by rw [eM7]; exact ho3
  rw [← eM7]
  refine xt_aload_n (j := 0) dX0_init_20 rfl rfl ?_
  refine xt_iconst (v := 0) dX0_init_21 (by decide) ?_
  obtain ⟨hn, hy, H⟩ := H
  obtain ⟨M8, eM8⟩ : ∃ z, z = nwA M7 21 ((0 : Int32).toNatClampNeg) := ⟨_, rfl⟩
  obtain ⟨q9, eq9⟩ : ∃ z, z = mN M7 := ⟨_, rfl⟩
  have H := H _ _ eq9 eM8
  refine xt_newI dX0_init_22 ac_I hn rfl hy ?_
  have ho3 : ok M8 x0 2 := by rw [eM8]; exact ok_nwA ho3
  rw [← eM8, ← eq9]
  obtain ⟨M10, eM10⟩ : ∃ z, z = wR M8 x0 2 (some q9) := ⟨_, rfl⟩
  have H := H _ eM10
  refine xt_putR dX0_init_24 (flX0_16 rfl) ft_2_2 rfl ho3.1 ho3.2 ?_
  have ho3 : ok M10 x0 2 := by rw [eM10]; exact ho3
  rw [← eM10]
  refine xt_aload_n (j := 0) dX0_init_27 rfl rfl ?_
  refine xt_iconst (v := 0) dX0_init_28 (by decide) ?_
  obtain ⟨hn, hy, H⟩ := H
  obtain ⟨M11, eM11⟩ : ∃ z, z = nwA M10 21 ((0 : Int32).toNatClampNeg) := ⟨_, rfl⟩
  obtain ⟨q12, eq12⟩ : ∃ z, z = mN M10 := ⟨_, rfl⟩
  have H := H _ _ eq12 eM11
  refine xt_newI dX0_init_29 ac_I hn rfl hy ?_
  have ho3 : ok M11 x0 2 := by rw [eM11]; exact ok_nwA ho3
  rw [← eM11, ← eq12]
  obtain ⟨M13, eM13⟩ : ∃ z, z = wR M11 x0 3 (some q12) := ⟨_, rfl⟩
  have H := H _ eM13
  refine xt_putR dX0_init_31 (flX0_19 rfl) ft_2_3 rfl ho3.1 ho3.2 ?_
  have ho3 : ok M13 x0 2 := by rw [eM13]; exact ho3
  rw [← eM13]
  refine xt_aload_n (j := 0) dX0_init_34 rfl rfl ?_
  refine xt_iconst (v := 1) dX0_init_35 (by decide) ?_
  obtain ⟨M14, eM14⟩ : ∃ z, z = wI M13 x0 4 1 := ⟨_, rfl⟩
  have H := H _ eM14
  refine xt_putI dX0_init_36 (flX0_22 rfl) ty_2_4 rfl ho3.1 ho3.2 ?_
  have ho3 : ok M14 x0 2 := by rw [eM14]; exact ho3
  rw [← eM14]
  refine xt_aload_n (j := 0) dX0_init_39 rfl rfl ?_
  obtain ⟨M15, eM15⟩ : ∃ z, z = nwO M14 1 3 := ⟨_, rfl⟩
  obtain ⟨q16, eq16⟩ : ∃ z, z = mN M14 := ⟨_, rfl⟩
  have H := H _ _ eq16 eM15
  refine xt_new dX0_init_40 (nlX0_26 rfl) ?_
  show T _ _ _ _ (.ref (mN M14) :: [.ref x0]) (nwO M14 1 3) _
  have ho3 : ok M15 x0 2 := by rw [eM15]; exact ok_nwO ho3
  rw [← eM15, ← eq16]
  refine xt_dup dX0_init_43 rfl ?_
  refine xt_callI (h2 := h) (as := []) (st := [.ref q16, .ref x0]) dX0_init_44 (mlX0_28 rfl) rfl (by first | decide | (simp [Value.category]; done)) (Nat.le_refl _) H (fun r M17 HH hE => ?_)
  obtain ⟨hr, H⟩ := HH hE
  subst hr
  have ho3 := ok_E ho3 hE
  show T _ _ _ _ [.ref q16, .ref x0] _ _
  obtain ⟨M18, eM18⟩ : ∃ z, z = wR M17 x0 5 (some q16) := ⟨_, rfl⟩
  have H := H _ eM18
  refine xt_putR dX0_init_47 (flX0_29 rfl) ft_2_5 rfl ho3.1 ho3.2 ?_
  have ho3 : ok M18 x0 2 := by rw [eM18]; exact ho3
  rw [← eM18]
  refine xt_aload_n (j := 0) dX0_init_50 rfl rfl ?_
  obtain ⟨M19, eM19⟩ : ∃ z, z = nwO M18 1 3 := ⟨_, rfl⟩
  obtain ⟨q20, eq20⟩ : ∃ z, z = mN M18 := ⟨_, rfl⟩
  have H := H _ _ eq20 eM19
  refine xt_new dX0_init_51 (nlX0_26 rfl) ?_
  show T _ _ _ _ (.ref (mN M18) :: [.ref x0]) (nwO M18 1 3) _
  have ho3 : ok M19 x0 2 := by rw [eM19]; exact ok_nwO ho3
  rw [← eM19, ← eq20]
  refine xt_dup dX0_init_54 rfl ?_
  refine xt_callI (h2 := h) (as := []) (st := [.ref q20, .ref x0]) dX0_init_55 (mlX0_28 rfl) rfl (by first | decide | (simp [Value.category]; done)) (Nat.le_refl _) H (fun r M21 HH hE => ?_)
  obtain ⟨hr, H⟩ := HH hE
  subst hr
  have ho3 := ok_E ho3 hE
  show T _ _ _ _ [.ref q20, .ref x0] _ _
  obtain ⟨M22, eM22⟩ : ∃ z, z = wR M21 x0 6 (some q20) := ⟨_, rfl⟩
  have H := H _ eM22
  refine xt_putR dX0_init_58 (flX0_33 rfl) ft_2_6 rfl ho3.1 ho3.2 ?_
  have ho3 : ok M22 x0 2 := by rw [eM22]; exact ho3
  rw [← eM22]
  refine xt_aload_n (j := 0) dX0_init_61 rfl rfl ?_
  obtain ⟨M23, eM23⟩ : ∃ z, z = nwO M22 1 3 := ⟨_, rfl⟩
  obtain ⟨q24, eq24⟩ : ∃ z, z = mN M22 := ⟨_, rfl⟩
  have H := H _ _ eq24 eM23
  refine xt_new dX0_init_62 (nlX0_26 rfl) ?_
  show T _ _ _ _ (.ref (mN M22) :: [.ref x0]) (nwO M22 1 3) _
  have ho3 : ok M23 x0 2 := by rw [eM23]; exact ok_nwO ho3
  rw [← eM23, ← eq24]
  refine xt_dup dX0_init_65 rfl ?_
  refine xt_callI (h2 := h) (as := []) (st := [.ref q24, .ref x0]) dX0_init_66 (mlX0_28 rfl) rfl (by first | decide | (simp [Value.category]; done)) (Nat.le_refl _) H (fun r M25 HH hE => ?_)
  obtain ⟨hr, H⟩ := HH hE
  subst hr
  have ho3 := ok_E ho3 hE
  show T _ _ _ _ [.ref q24, .ref x0] _ _
  obtain ⟨M26, eM26⟩ : ∃ z, z = wR M25 x0 7 (some q24) := ⟨_, rfl⟩
  have H := H _ eM26
  refine xt_putR dX0_init_69 (flX0_36 rfl) ft_2_7 rfl ho3.1 ho3.2 ?_
  have ho3 : ok M26 x0 2 := by rw [eM26]; exact ho3
  rw [← eM26]
  refine xt_aload_n (j := 0) dX0_init_72 rfl rfl ?_
  refine xt_bipush (v := 16) dX0_init_73 (by decide) ?_
  obtain ⟨hn, hy, H⟩ := H
  obtain ⟨M27, eM27⟩ : ∃ z, z = nwA M26 21 ((16 : Int32).toNatClampNeg) := ⟨_, rfl⟩
  obtain ⟨q28, eq28⟩ : ∃ z, z = mN M26 := ⟨_, rfl⟩
  have H := H _ _ eq28 eM27
  refine xt_newI dX0_init_75 ac_I hn rfl hy ?_
  have ho3 : ok M27 x0 2 := by rw [eM27]; exact ok_nwA ho3
  rw [← eM27, ← eq28]
  obtain ⟨M29, eM29⟩ : ∃ z, z = wR M27 x0 8 (some q28) := ⟨_, rfl⟩
  have H := H _ eM29
  refine xt_putR dX0_init_77 (flX0_41 rfl) ft_2_8 rfl ho3.1 ho3.2 ?_
  have ho3 : ok M29 x0 2 := by rw [eM29]; exact ho3
  rw [← eM29]
  refine xt_aload_n (j := 0) dX0_init_80 rfl rfl ?_
  refine xt_bipush (v := 24) dX0_init_81 (by decide) ?_
  obtain ⟨hn, hy, H⟩ := H
  obtain ⟨M30, eM30⟩ : ∃ z, z = nwA M29 21 ((24 : Int32).toNatClampNeg) := ⟨_, rfl⟩
  obtain ⟨q31, eq31⟩ : ∃ z, z = mN M29 := ⟨_, rfl⟩
  have H := H _ _ eq31 eM30
  refine xt_newI dX0_init_83 ac_I hn rfl hy ?_
  have ho3 : ok M30 x0 2 := by rw [eM30]; exact ok_nwA ho3
  rw [← eM30, ← eq31]
  obtain ⟨M32, eM32⟩ : ∃ z, z = wR M30 x0 9 (some q31) := ⟨_, rfl⟩
  have H := H _ eM32
  refine xt_putR dX0_init_85 (flX0_46 rfl) ft_2_9 rfl ho3.1 ho3.2 ?_
  have ho3 : ok M32 x0 2 := by rw [eM32]; exact ho3
  rw [← eM32]
  refine xt_aload_n (j := 0) dX0_init_88 rfl rfl ?_
  refine xt_bipush (v := 24) dX0_init_89 (by decide) ?_
  obtain ⟨hn, hy, H⟩ := H
  obtain ⟨M33, eM33⟩ : ∃ z, z = nwA M32 21 ((24 : Int32).toNatClampNeg) := ⟨_, rfl⟩
  obtain ⟨q34, eq34⟩ : ∃ z, z = mN M32 := ⟨_, rfl⟩
  have H := H _ _ eq34 eM33
  refine xt_newI dX0_init_91 ac_I hn rfl hy ?_
  have ho3 : ok M33 x0 2 := by rw [eM33]; exact ok_nwA ho3
  rw [← eM33, ← eq34]
  obtain ⟨M35, eM35⟩ : ∃ z, z = wR M33 x0 10 (some q34) := ⟨_, rfl⟩
  have H := H _ eM35
  refine xt_putR dX0_init_93 (flX0_49 rfl) ft_2_10 rfl ho3.1 ho3.2 ?_
  have ho3 : ok M35 x0 2 := by rw [eM35]; exact ho3
  rw [← eM35]
  refine xt_aload_n (j := 0) dX0_init_96 rfl rfl ?_
  refine xt_bipush (v := 24) dX0_init_97 (by decide) ?_
  obtain ⟨hn, hy, H⟩ := H
  obtain ⟨M36, eM36⟩ : ∃ z, z = nwA M35 21 ((24 : Int32).toNatClampNeg) := ⟨_, rfl⟩
  obtain ⟨q37, eq37⟩ : ∃ z, z = mN M35 := ⟨_, rfl⟩
  have H := H _ _ eq37 eM36
  refine xt_newI dX0_init_99 ac_I hn rfl hy ?_
  have ho3 : ok M36 x0 2 := by rw [eM36]; exact ok_nwA ho3
  rw [← eM36, ← eq37]
  obtain ⟨M38, eM38⟩ : ∃ z, z = wR M36 x0 11 (some q37) := ⟨_, rfl⟩
  have H := H _ eM38
  refine xt_putR dX0_init_101 (flX0_52 rfl) ft_2_11 rfl ho3.1 ho3.2 ?_
  have ho3 : ok M38 x0 2 := by rw [eM38]; exact ho3
  rw [← eM38]
  refine xt_aload_n (j := 0) dX0_init_104 rfl rfl ?_
  refine xt_bipush (v := 16) dX0_init_105 (by decide) ?_
  obtain ⟨hn, hy, H⟩ := H
  obtain ⟨M39, eM39⟩ : ∃ z, z = nwA M38 21 ((16 : Int32).toNatClampNeg) := ⟨_, rfl⟩
  obtain ⟨q40, eq40⟩ : ∃ z, z = mN M38 := ⟨_, rfl⟩
  have H := H _ _ eq40 eM39
  refine xt_newI dX0_init_107 ac_I hn rfl hy ?_
  have ho3 : ok M39 x0 2 := by rw [eM39]; exact ok_nwA ho3
  rw [← eM39, ← eq40]
  obtain ⟨M41, eM41⟩ : ∃ z, z = wR M39 x0 13 (some q40) := ⟨_, rfl⟩
  have H := H _ eM41
  refine xt_putR dX0_init_109 (flX0_55 rfl) ft_2_13 rfl ho3.1 ho3.2 ?_
  have ho3 : ok M41 x0 2 := by rw [eM41]; exact ho3
  rw [← eM41]
  refine xt_aload_n (j := 0) dX0_init_112 rfl rfl ?_
  refine xt_bipush (v := 16) dX0_init_113 (by decide) ?_
  obtain ⟨hn, hy, H⟩ := H
  obtain ⟨M42, eM42⟩ : ∃ z, z = nwA M41 21 ((16 : Int32).toNatClampNeg) := ⟨_, rfl⟩
  obtain ⟨q43, eq43⟩ : ∃ z, z = mN M41 := ⟨_, rfl⟩
  have H := H _ _ eq43 eM42
  refine xt_newI dX0_init_115 ac_I hn rfl hy ?_
  have ho3 : ok M42 x0 2 := by rw [eM42]; exact ok_nwA ho3
  rw [← eM42, ← eq43]
  obtain ⟨M44, eM44⟩ : ∃ z, z = wR M42 x0 14 (some q43) := ⟨_, rfl⟩
  have H := H _ eM44
  refine xt_putR dX0_init_117 (flX0_58 rfl) ft_2_14 rfl ho3.1 ho3.2 ?_
  have ho3 : ok M44 x0 2 := by rw [eM44]; exact ho3
  rw [← eM44]
  refine xt_aload_n (j := 0) dX0_init_120 rfl rfl ?_
  refine xt_aload_n (j := 0) dX0_init_121 rfl rfl ?_
  refine xt_callV (h2 := h) (as := []) (st := [.ref x0]) dX0_init_122 (mlX0_61 rfl) rfl ho3.1 ⟨by rw [ho3.2]; rfl, by rw [ho3.2]; decide⟩ (by first | decide | (simp [Value.category]; done)) (Nat.le_refl _) H (fun r M45 HH hE => ?_)
  obtain ⟨r46, hr, H⟩ := HH hE
  subst hr
  have ho3 := ok_E ho3 hE
  show T _ _ _ _ [.int r46, .ref x0] _ _
  obtain ⟨M47, eM47⟩ : ∃ z, z = wI M45 x0 15 r46 := ⟨_, rfl⟩
  have H := H _ eM47
  refine xt_putI dX0_init_125 (flX0_65 rfl) ty_2_15 rfl ho3.1 ho3.2 ?_
  have ho3 : ok M47 x0 2 := by rw [eM47]; exact ho3
  rw [← eM47]
  exact xt_return dX0_init_128 rfl H
theorem KX0_init {h : Nat} {x0 : Nat} {M : Mem} {Q : Option Value → Mem → Prop} (H : DX0_init_0 h x0 M Q) : E (h + 1) mdX0_init [.ref x0] M Q := E.of (by decide) (Nat.le_of_ble_eq_true rfl) (fun _ _ _ => trivial) (VX0_init_0 H)
def DX0_not_0 (h : Nat) (x0 : Int32) (M : Mem) (Q : Option Value → Mem → Prop) : Prop :=
  Q (some (.int (x0 ^^^ 1))) M
set_option maxRecDepth 20000 in
set_option maxHeartbeats 2000000 in
theorem VX0_not_0 {h : Nat} {x0 : Int32} {M : Mem} {Q : Option Value → Mem → Prop} (H : DX0_not_0 h x0 M Q) : T (h + 1) mdX0_not 0 [(0, .int x0)] [] M Q := by
  unfold DX0_not_0 at H
  refine xt_iload_n (j := 0) dX0_not_0 rfl rfl ?_
  refine xt_iconst (v := 1) dX0_not_1 (by decide) ?_
  refine xt_ixor dX0_not_2 ?_
  exact xt_ireturn dX0_not_3 rfl H
theorem KX0_not {h : Nat} {x0 : Int32} {M : Mem} {Q : Option Value → Mem → Prop} (H : DX0_not_0 h x0 M Q) : E (h + 1) mdX0_not [.int x0] M Q := E.of (by decide) (Nat.le_of_ble_eq_true rfl) (fun _ _ _ => trivial) (VX0_not_0 H)
def DX0_and_8 (h : Nat) (M : Mem) (Q : Option Value → Mem → Prop) : Prop :=
  Q (some (.int 0)) M
set_option maxRecDepth 20000 in
set_option maxHeartbeats 2000000 in
theorem VX0_and_8 {h : Nat} {M : Mem} {Q : Option Value → Mem → Prop} (H : DX0_and_8 h  M Q) : T (h + 1) mdX0_and 8 [] [] M Q := by
  unfold DX0_and_8 at H
  refine xt_iconst (v := 0) dX0_and_8 (by decide) ?_
  exact xt_ireturn dX0_and_9 rfl H
def DX0_and_20 (h : Nat) (x2 : Int32) (M : Mem) (Q : Option Value → Mem → Prop) : Prop :=
  Q (some (.int x2)) M
set_option maxRecDepth 20000 in
set_option maxHeartbeats 2000000 in
theorem VX0_and_20 {h : Nat} {x2 : Int32} {M : Mem} {Q : Option Value → Mem → Prop} (H : DX0_and_20 h x2 M Q) : T (h + 1) mdX0_and 20 [(2, .int x2)] [] M Q := by
  unfold DX0_and_20 at H
  refine xt_iload_n (j := 0) dX0_and_20 rfl rfl ?_
  exact xt_ireturn dX0_and_21 rfl H
def DX0_and_39 (h : Nat) (s0 : Int32) (M : Mem) (Q : Option Value → Mem → Prop) : Prop :=
  Q (some (.int s0)) M
set_option maxRecDepth 20000 in
set_option maxHeartbeats 2000000 in
theorem VX0_and_39 {h : Nat} {s0 : Int32} {M : Mem} {Q : Option Value → Mem → Prop} (H : DX0_and_39 h s0 M Q) : T (h + 1) mdX0_and 39 [] [.int s0] M Q := by
  unfold DX0_and_39 at H
  exact xt_ireturn dX0_and_39 rfl H
def DX0_and_0 (h : Nat) (x0 : Nat) (x1 : Int32) (x2 : Int32) (M : Mem) (Q : Option Value → Mem → Prop) : Prop :=
  (x1 = 0 → DX0_and_8 h  M Q) ∧
  (¬ (x1 = 0) → (¬ x2 = 0 → (x1 = 1 → DX0_and_20 h x2 M Q) ∧
  (¬ (x1 = 1) → (¬ x1 = x2 → (¬ x2 = 1 → ok M x0 2 ∧ E h mdX0_addNet [.ref x0, .int x1, .int x2] M (fun r M2 => mE M M2 → ∃ r3 : Int32, r = some (.int r3) ∧ DX0_and_39 h (2 * r3) M2 Q)) ∧
  (x2 = 1 → DX0_and_39 h x1 M Q)) ∧
  (x1 = x2 → DX0_and_20 h x2 M Q))) ∧
  (x2 = 0 → DX0_and_8 h  M Q))
set_option maxRecDepth 20000 in
set_option maxHeartbeats 2000000 in
theorem VX0_and_0 {h : Nat} {x0 : Nat} {x1 : Int32} {x2 : Int32} {M : Mem} {Q : Option Value → Mem → Prop} (H : DX0_and_0 h x0 x1 x2 M Q) : T (h + 1) mdX0_and 0 [(0, .ref x0), (1, .int x1), (2, .int x2)] [] M Q := by
  unfold DX0_and_0 at H
  refine xt_iload_n (j := 1) dX0_and_0 rfl rfl ?_
  refine xt_if_eq (tgt := 8) dX0_and_1 (by decide) (fun hc => ?_) (fun hc => ?_)
  · have H := H.1 hc
    exact xt_sub [] rfl (VX0_and_8 H)
  · have H := H.2 hc
    refine xt_iload_n (j := 2) dX0_and_4 rfl rfl ?_
    refine xt_if_ne (tgt := 10) dX0_and_5 (by decide) (fun hc => ?_) (fun hc => ?_)
    · have H := H.1 hc
      refine xt_iload_n (j := 1) dX0_and_10 rfl rfl ?_
      refine xt_iconst (v := 1) dX0_and_11 (by decide) ?_
      refine xt_icmp_eq (tgt := 20) dX0_and_12 (by decide) (fun hc => ?_) (fun hc => ?_)
      · have H := H.1 hc
        exact xt_sub [2] rfl (VX0_and_20 H)
      · have H := H.2 hc
        refine xt_iload_n (j := 1) dX0_and_15 rfl rfl ?_
        refine xt_iload_n (j := 2) dX0_and_16 rfl rfl ?_
        refine xt_icmp_ne (tgt := 22) dX0_and_17 (by decide) (fun hc => ?_) (fun hc => ?_)
        · have H := H.1 hc
          refine xt_iload_n (j := 2) dX0_and_22 rfl rfl ?_
          refine xt_iconst (v := 1) dX0_and_23 (by decide) ?_
          refine xt_icmp_ne (tgt := 31) dX0_and_24 (by decide) (fun hc => ?_) (fun hc => ?_)
          · have H := H.1 hc
            refine xt_iconst (v := 2) dX0_and_31 (by decide) ?_
            refine xt_aload_n (j := 0) dX0_and_32 rfl rfl ?_
            refine xt_iload_n (j := 1) dX0_and_33 rfl rfl ?_
            refine xt_iload_n (j := 2) dX0_and_34 rfl rfl ?_
            obtain ⟨ho1, H⟩ := H
            refine xt_callV (h2 := h) (as := [.int x1, .int x2]) (st := [.int 2]) dX0_and_35 (mlX0_68 rfl) rfl ho1.1 ⟨by rw [ho1.2]; rfl, by rw [ho1.2]; decide⟩ (by first | decide | (simp [Value.category]; done)) (Nat.le_refl _) H (fun r M2 HH hE => ?_)
            obtain ⟨r3, hr, H⟩ := HH hE
            subst hr
            have ho1 := ok_E ho1 hE
            show T _ _ _ _ [.int r3, .int 2] _ _
            refine xt_imul dX0_and_38 ?_
            exact xt_sub [] rfl (VX0_and_39 H)
          · have H := H.2 hc
            refine xt_iload_n (j := 1) dX0_and_27 rfl rfl ?_
            refine xt_goto (tgt := 39) dX0_and_28 (by decide) ?_
            exact xt_sub [] rfl (VX0_and_39 H)
        · have H := H.2 hc
          exact xt_sub [2] rfl (VX0_and_20 H)
    · have H := H.2 hc
      exact xt_sub [] rfl (VX0_and_8 H)
theorem KX0_and {h : Nat} {x0 : Nat} {x1 : Int32} {x2 : Int32} {M : Mem} {Q : Option Value → Mem → Prop} (H : DX0_and_0 h x0 x1 x2 M Q) : E (h + 1) mdX0_and [.ref x0, .int x1, .int x2] M Q := E.of (by decide) (Nat.le_of_ble_eq_true rfl) (fun _ _ _ => trivial) (VX0_and_0 H)
def DX0_or_0 (h : Nat) (x0 : Nat) (x1 : Int32) (x2 : Int32) (M : Mem) (Q : Option Value → Mem → Prop) : Prop :=
  E h mdX0_not [.int x1] M (fun r M1 => mE M M1 → ∃ r2 : Int32, r = some (.int r2) ∧ E h mdX0_not [.int x2] M1 (fun r M3 => mE M1 M3 → ∃ r4 : Int32, r = some (.int r4) ∧ ok M3 x0 2 ∧ E h mdX0_and [.ref x0, .int r2, .int r4] M3 (fun r M6 => mE M3 M6 → ∃ r7 : Int32, r = some (.int r7) ∧ E h mdX0_not [.int r7] M6 (fun r M8 => mE M6 M8 → ∃ r9 : Int32, r = some (.int r9) ∧ Q (some (.int r9)) M8))))
set_option maxRecDepth 20000 in
set_option maxHeartbeats 2000000 in
theorem VX0_or_0 {h : Nat} {x0 : Nat} {x1 : Int32} {x2 : Int32} {M : Mem} {Q : Option Value → Mem → Prop} (H : DX0_or_0 h x0 x1 x2 M Q) : T (h + 1) mdX0_or 0 [(0, .ref x0), (1, .int x1), (2, .int x2)] [] M Q := by
  unfold DX0_or_0 at H
  refine xt_aload_n (j := 0) dX0_or_0 rfl rfl ?_
  refine xt_iload_n (j := 1) dX0_or_1 rfl rfl ?_
  refine xt_callS (h2 := h) (as := [.int x1]) (st := [.ref x0]) dX0_or_2 (mlX0_72 rfl) rfl (by first | decide | (simp [Value.category]; done)) (Nat.le_refl _) H (fun r M1 HH hE => ?_)
  obtain ⟨r2, hr, H⟩ := HH hE
  subst hr
  show T _ _ _ _ [.int r2, .ref x0] _ _
  refine xt_iload_n (j := 2) dX0_or_5 rfl rfl ?_
  refine xt_callS (h2 := h) (as := [.int x2]) (st := [.int r2, .ref x0]) dX0_or_6 (mlX0_72 rfl) rfl (by first | decide | (simp [Value.category]; done)) (Nat.le_refl _) H (fun r M3 HH hE => ?_)
  obtain ⟨r4, hr, H⟩ := HH hE
  subst hr
  show T _ _ _ _ [.int r4, .int r2, .ref x0] _ _
  obtain ⟨ho5, H⟩ := H
  refine xt_callV (h2 := h) (as := [.int r2, .int r4]) (st := []) dX0_or_9 (mlX0_76 rfl) rfl ho5.1 ⟨by rw [ho5.2]; rfl, by rw [ho5.2]; decide⟩ (by first | decide | (simp [Value.category]; done)) (Nat.le_refl _) H (fun r M6 HH hE => ?_)
  obtain ⟨r7, hr, H⟩ := HH hE
  subst hr
  have ho5 := ok_E ho5 hE
  show T _ _ _ _ [.int r7] _ _
  refine xt_callS (h2 := h) (as := [.int r7]) (st := []) dX0_or_12 (mlX0_72 rfl) rfl (by first | decide | (simp [Value.category]; done)) (Nat.le_refl _) H (fun r M8 HH hE => ?_)
  obtain ⟨r9, hr, H⟩ := HH hE
  subst hr
  have ho5 := ok_E ho5 hE
  show T _ _ _ _ [.int r9] _ _
  exact xt_ireturn dX0_or_15 rfl H
theorem KX0_or {h : Nat} {x0 : Nat} {x1 : Int32} {x2 : Int32} {M : Mem} {Q : Option Value → Mem → Prop} (H : DX0_or_0 h x0 x1 x2 M Q) : E (h + 1) mdX0_or [.ref x0, .int x1, .int x2] M Q := E.of (by decide) (Nat.le_of_ble_eq_true rfl) (fun _ _ _ => trivial) (VX0_or_0 H)
def DX0_fresh_0 (h : Nat) (x0 : Nat) (M : Mem) (Q : Option Value → Mem → Prop) : Prop :=
  ok M x0 2 ∧ E h mdX0_addNet [.ref x0, .int (2 * (mI M x0 4)), .int (2 * (mI M x0 4))] M (fun r M2 => mE M M2 → ∃ r3 : Int32, r = some (.int r3) ∧ Q (some (.int (2 * (mI M x0 4)))) M2)
set_option maxRecDepth 20000 in
set_option maxHeartbeats 2000000 in
theorem VX0_fresh_0 {h : Nat} {x0 : Nat} {M : Mem} {Q : Option Value → Mem → Prop} (H : DX0_fresh_0 h x0 M Q) : T (h + 1) mdX0_fresh 0 [(0, .ref x0)] [] M Q := by
  unfold DX0_fresh_0 at H
  refine xt_iconst (v := 2) dX0_fresh_0 (by decide) ?_
  refine xt_aload_n (j := 0) dX0_fresh_1 rfl rfl ?_
  obtain ⟨ho1, H⟩ := H
  refine xt_getI dX0_fresh_2 (flX0_22 rfl) ft_2_4 ho1.1 ho1.2 ?_
  refine xt_imul dX0_fresh_5 ?_
  refine xt_istore_n (lv' := [(1, .int (2 * (mI M x0 4))), (0, .ref x0)]) dX0_fresh_6 rfl (by decide) rfl ?_
  refine xt_aload_n (j := 1) dX0_fresh_7 rfl rfl ?_
  refine xt_iload_n (j := 0) dX0_fresh_8 rfl rfl ?_
  refine xt_iload_n (j := 0) dX0_fresh_9 rfl rfl ?_
  refine xt_callV (h2 := h) (as := [.int (2 * (mI M x0 4)), .int (2 * (mI M x0 4))]) (st := []) dX0_fresh_10 (mlX0_68 rfl) rfl ho1.1 ⟨by rw [ho1.2]; rfl, by rw [ho1.2]; decide⟩ (by first | decide | (simp [Value.category]; done)) (Nat.le_refl _) H (fun r M2 HH hE => ?_)
  obtain ⟨r3, hr, H⟩ := HH hE
  subst hr
  have ho1 := ok_E ho1 hE
  show T _ _ _ _ [.int r3] _ _
  refine xt_pop dX0_fresh_13 rfl ?_
  refine xt_iload_n (j := 0) dX0_fresh_14 rfl rfl ?_
  exact xt_ireturn dX0_fresh_15 rfl H
theorem KX0_fresh {h : Nat} {x0 : Nat} {M : Mem} {Q : Option Value → Mem → Prop} (H : DX0_fresh_0 h x0 M Q) : E (h + 1) mdX0_fresh [.ref x0] M Q := E.of (by decide) (Nat.le_of_ble_eq_true rfl) (fun _ _ _ => trivial) (VX0_fresh_0 H)
def DX0_close_0 (h : Nat) (x0 : Nat) (x1 : Int32) (x2 : Int32) (M : Mem) (Q : Option Value → Mem → Prop) : Prop :=
  ok M x0 2 ∧ ∃ b2 : Nat, mR M x0 0 = some b2 ∧ ok M b2 21 ∧ vp_in (((x1 : Int32).toUInt32 >>> ((1 : Int32).toUInt32 &&& Int32.toUInt32 31)).toInt32) (mL M b2) ∧ ∀ M4 : Mem, M4 = wAI M b2 (((x1 : Int32).toUInt32 >>> ((1 : Int32).toUInt32 &&& Int32.toUInt32 31)).toInt32 : Int32).toNatClampNeg x2 →
  ∃ b5 : Nat, mR M4 x0 1 = some b5 ∧ ok M4 b5 21 ∧ vp_in (((x1 : Int32).toUInt32 >>> ((1 : Int32).toUInt32 &&& Int32.toUInt32 31)).toInt32) (mL M4 b5) ∧ ∀ M7 : Mem, M7 = wAI M4 b5 (((x1 : Int32).toUInt32 >>> ((1 : Int32).toUInt32 &&& Int32.toUInt32 31)).toInt32 : Int32).toNatClampNeg x2 →
  Q none M7
set_option maxRecDepth 20000 in
set_option maxHeartbeats 2000000 in
theorem VX0_close_0 {h : Nat} {x0 : Nat} {x1 : Int32} {x2 : Int32} {M : Mem} {Q : Option Value → Mem → Prop} (H : DX0_close_0 h x0 x1 x2 M Q) : T (h + 1) mdX0_close 0 [(0, .ref x0), (1, .int x1), (2, .int x2)] [] M Q := by
  unfold DX0_close_0 at H
  refine xt_aload_n (j := 0) dX0_close_0 rfl rfl ?_
  obtain ⟨ho1, H⟩ := H
  obtain ⟨b2, hb, H⟩ := H
  refine xt_getR dX0_close_1 (flX0_9 rfl) ft_2_0 ho1.1 ho1.2 hb ?_
  refine xt_iload_n (j := 1) dX0_close_4 rfl rfl ?_
  refine xt_iconst (v := 1) dX0_close_5 (by decide) ?_
  refine xt_iushr dX0_close_6 ?_
  refine xt_iload_n (j := 2) dX0_close_7 rfl rfl ?_
  obtain ⟨ho3, H⟩ := H
  obtain ⟨hi, H⟩ := H
  obtain ⟨M4, eM4⟩ : ∃ z, z = wAI M b2 (((x1 : Int32).toUInt32 >>> ((1 : Int32).toUInt32 &&& Int32.toUInt32 31)).toInt32 : Int32).toNatClampNeg x2 := ⟨_, rfl⟩
  have H := H _ eM4
  refine xt_iast dX0_close_8 ho3.1 ho3.2 hi ?_
  have ho1 : ok M4 x0 2 := by rw [eM4]; exact ho1
  rw [← eM4]
  refine xt_aload_n (j := 0) dX0_close_9 rfl rfl ?_
  obtain ⟨b5, hb, H⟩ := H
  refine xt_getR dX0_close_10 (flX0_13 rfl) ft_2_1 ho1.1 ho1.2 hb ?_
  refine xt_iload_n (j := 1) dX0_close_13 rfl rfl ?_
  refine xt_iconst (v := 1) dX0_close_14 (by decide) ?_
  refine xt_iushr dX0_close_15 ?_
  refine xt_iload_n (j := 2) dX0_close_16 rfl rfl ?_
  obtain ⟨ho6, H⟩ := H
  obtain ⟨hi, H⟩ := H
  obtain ⟨M7, eM7⟩ : ∃ z, z = wAI M4 b5 (((x1 : Int32).toUInt32 >>> ((1 : Int32).toUInt32 &&& Int32.toUInt32 31)).toInt32 : Int32).toNatClampNeg x2 := ⟨_, rfl⟩
  have H := H _ eM7
  refine xt_iast dX0_close_17 ho6.1 ho6.2 hi ?_
  have ho1 : ok M7 x0 2 := by rw [eM7]; exact ho1
  rw [← eM7]
  exact xt_return dX0_close_18 rfl H
theorem KX0_close {h : Nat} {x0 : Nat} {x1 : Int32} {x2 : Int32} {M : Mem} {Q : Option Value → Mem → Prop} (H : DX0_close_0 h x0 x1 x2 M Q) : E (h + 1) mdX0_close [.ref x0, .int x1, .int x2] M Q := E.of (by decide) (Nat.le_of_ble_eq_true rfl) (fun _ _ _ => trivial) (VX0_close_0 H)
def DX0_addNet_46 (h : Nat) (x0 : Nat) (x1 : Int32) (x2 : Int32) (M : Mem) (Q : Option Value → Mem → Prop) : Prop :=
  ok M x0 2 ∧ ∃ b2 : Nat, mR M x0 0 = some b2 ∧ ok M b2 21 ∧ vp_in (mI M x0 4) (mL M b2) ∧ ∀ M4 : Mem, M4 = wAI M b2 (mI M x0 4 : Int32).toNatClampNeg x1 →
  ∃ b5 : Nat, mR M4 x0 1 = some b5 ∧ ok M4 b5 21 ∧ vp_in (mI M4 x0 4) (mL M4 b5) ∧ ∀ M7 : Mem, M7 = wAI M4 b5 (mI M4 x0 4 : Int32).toNatClampNeg x2 →
  ∀ M8 : Mem, M8 = wI M7 x0 4 ((mI M7 x0 4) + 1) →
  Q (some (.int ((mI M8 x0 4) - 1))) M8
set_option maxRecDepth 20000 in
set_option maxHeartbeats 2000000 in
theorem VX0_addNet_46 {h : Nat} {x0 : Nat} {x1 : Int32} {x2 : Int32} {M : Mem} {Q : Option Value → Mem → Prop} (H : DX0_addNet_46 h x0 x1 x2 M Q) : T (h + 1) mdX0_addNet 46 [(0, .ref x0), (1, .int x1), (2, .int x2)] [] M Q := by
  unfold DX0_addNet_46 at H
  refine xt_aload_n (j := 0) dX0_addNet_46 rfl rfl ?_
  obtain ⟨ho1, H⟩ := H
  obtain ⟨b2, hb, H⟩ := H
  refine xt_getR dX0_addNet_47 (flX0_9 rfl) ft_2_0 ho1.1 ho1.2 hb ?_
  refine xt_aload_n (j := 0) dX0_addNet_50 rfl rfl ?_
  refine xt_getI dX0_addNet_51 (flX0_22 rfl) ft_2_4 ho1.1 ho1.2 ?_
  refine xt_iload_n (j := 1) dX0_addNet_54 rfl rfl ?_
  obtain ⟨ho3, H⟩ := H
  obtain ⟨hi, H⟩ := H
  obtain ⟨M4, eM4⟩ : ∃ z, z = wAI M b2 (mI M x0 4 : Int32).toNatClampNeg x1 := ⟨_, rfl⟩
  have H := H _ eM4
  refine xt_iast dX0_addNet_55 ho3.1 ho3.2 hi ?_
  have ho1 : ok M4 x0 2 := by rw [eM4]; exact ho1
  rw [← eM4]
  refine xt_aload_n (j := 0) dX0_addNet_56 rfl rfl ?_
  obtain ⟨b5, hb, H⟩ := H
  refine xt_getR dX0_addNet_57 (flX0_13 rfl) ft_2_1 ho1.1 ho1.2 hb ?_
  refine xt_aload_n (j := 0) dX0_addNet_60 rfl rfl ?_
  refine xt_getI dX0_addNet_61 (flX0_22 rfl) ft_2_4 ho1.1 ho1.2 ?_
  refine xt_iload_n (j := 2) dX0_addNet_64 rfl rfl ?_
  obtain ⟨ho6, H⟩ := H
  obtain ⟨hi, H⟩ := H
  obtain ⟨M7, eM7⟩ : ∃ z, z = wAI M4 b5 (mI M4 x0 4 : Int32).toNatClampNeg x2 := ⟨_, rfl⟩
  have H := H _ eM7
  refine xt_iast dX0_addNet_65 ho6.1 ho6.2 hi ?_
  have ho1 : ok M7 x0 2 := by rw [eM7]; exact ho1
  rw [← eM7]
  refine xt_aload_n (j := 0) dX0_addNet_66 rfl rfl ?_
  refine xt_dup dX0_addNet_67 rfl ?_
  refine xt_getI dX0_addNet_68 (flX0_22 rfl) ft_2_4 ho1.1 ho1.2 ?_
  refine xt_iconst (v := 1) dX0_addNet_71 (by decide) ?_
  refine xt_iadd dX0_addNet_72 ?_
  obtain ⟨M8, eM8⟩ : ∃ z, z = wI M7 x0 4 ((mI M7 x0 4) + 1) := ⟨_, rfl⟩
  have H := H _ eM8
  refine xt_putI dX0_addNet_73 (flX0_22 rfl) ty_2_4 rfl ho1.1 ho1.2 ?_
  have ho1 : ok M8 x0 2 := by rw [eM8]; exact ho1
  rw [← eM8]
  refine xt_aload_n (j := 0) dX0_addNet_76 rfl rfl ?_
  refine xt_getI dX0_addNet_77 (flX0_22 rfl) ft_2_4 ho1.1 ho1.2 ?_
  refine xt_iconst (v := 1) dX0_addNet_80 (by decide) ?_
  refine xt_isub dX0_addNet_81 ?_
  exact xt_ireturn dX0_addNet_82 rfl H
def DX0_addNet_0 (h : Nat) (x0 : Nat) (x1 : Int32) (x2 : Int32) (M : Mem) (Q : Option Value → Mem → Prop) : Prop :=
  ok M x0 2 ∧ ∃ b2 : Nat, mR M x0 0 = some b2 ∧ ok M b2 21 ∧ (¬ (mI M x0 4) = (Int32.ofNat (mL M b2)) → DX0_addNet_46 h x0 x1 x2 M Q) ∧
  ((mI M x0 4) = (Int32.ofNat (mL M b2)) → ∃ b4 : Nat, mR M x0 0 = some b4 ∧ E h mdJ7_copyOf_59c91 [.ref b4, .int ((mI M x0 4) * 2)] M (fun r M5 => mE M M5 → ∃ b6 : Nat, r = some (.ref b6) ∧ ∀ M7 : Mem, M7 = wR M5 x0 0 (some b6) →
  ∃ b8 : Nat, mR M7 x0 1 = some b8 ∧ E h mdJ7_copyOf_59c91 [.ref b8, .int ((mI M7 x0 4) * 2)] M7 (fun r M9 => mE M7 M9 → ∃ b10 : Nat, r = some (.ref b10) ∧ ∀ M11 : Mem, M11 = wR M9 x0 1 (some b10) →
  DX0_addNet_46 h x0 x1 x2 M11 Q)))
set_option maxRecDepth 20000 in
set_option maxHeartbeats 2000000 in
theorem VX0_addNet_0 {h : Nat} {x0 : Nat} {x1 : Int32} {x2 : Int32} {M : Mem} {Q : Option Value → Mem → Prop} (H : DX0_addNet_0 h x0 x1 x2 M Q) : T (h + 1) mdX0_addNet 0 [(0, .ref x0), (1, .int x1), (2, .int x2)] [] M Q := by
  unfold DX0_addNet_0 at H
  refine xt_aload_n (j := 0) dX0_addNet_0 rfl rfl ?_
  obtain ⟨ho1, H⟩ := H
  refine xt_getI dX0_addNet_1 (flX0_22 rfl) ft_2_4 ho1.1 ho1.2 ?_
  refine xt_aload_n (j := 0) dX0_addNet_4 rfl rfl ?_
  obtain ⟨b2, hb, H⟩ := H
  refine xt_getR dX0_addNet_5 (flX0_9 rfl) ft_2_0 ho1.1 ho1.2 hb ?_
  obtain ⟨ho3, H⟩ := H
  refine xt_alen dX0_addNet_8 ho3.1 (Or.inr (Or.inl ho3.2)) ?_
  refine xt_icmp_ne (tgt := 46) dX0_addNet_9 (by decide) (fun hc => ?_) (fun hc => ?_)
  · have H := H.1 hc
    exact xt_sub [0, 1, 2] rfl (VX0_addNet_46 H)
  · have H := H.2 hc
    refine xt_aload_n (j := 0) dX0_addNet_12 rfl rfl ?_
    refine xt_aload_n (j := 0) dX0_addNet_13 rfl rfl ?_
    obtain ⟨b4, hb, H⟩ := H
    refine xt_getR dX0_addNet_14 (flX0_9 rfl) ft_2_0 ho1.1 ho1.2 hb ?_
    refine xt_aload_n (j := 0) dX0_addNet_17 rfl rfl ?_
    refine xt_getI dX0_addNet_18 (flX0_22 rfl) ft_2_4 ho1.1 ho1.2 ?_
    refine xt_iconst (v := 2) dX0_addNet_21 (by decide) ?_
    refine xt_imul dX0_addNet_22 ?_
    refine xt_callS (h2 := h) (as := [.ref b4, .int ((mI M x0 4) * 2)]) (st := [.ref x0]) dX0_addNet_23 (mlX0_79 rfl) rfl (by first | decide | (simp [Value.category]; done)) (Nat.le_refl _) H (fun r M5 HH hE => ?_)
    obtain ⟨b6, hr, H⟩ := HH hE
    subst hr
    have ho1 := ok_E ho1 hE
    show T _ _ _ _ [.ref b6, .ref x0] _ _
    obtain ⟨M7, eM7⟩ : ∃ z, z = wR M5 x0 0 (some b6) := ⟨_, rfl⟩
    have H := H _ eM7
    refine xt_putR dX0_addNet_26 (flX0_9 rfl) ft_2_0 rfl ho1.1 ho1.2 ?_
    have ho1 : ok M7 x0 2 := by rw [eM7]; exact ho1
    rw [← eM7]
    refine xt_aload_n (j := 0) dX0_addNet_29 rfl rfl ?_
    refine xt_aload_n (j := 0) dX0_addNet_30 rfl rfl ?_
    obtain ⟨b8, hb, H⟩ := H
    refine xt_getR dX0_addNet_31 (flX0_13 rfl) ft_2_1 ho1.1 ho1.2 hb ?_
    refine xt_aload_n (j := 0) dX0_addNet_34 rfl rfl ?_
    refine xt_getI dX0_addNet_35 (flX0_22 rfl) ft_2_4 ho1.1 ho1.2 ?_
    refine xt_iconst (v := 2) dX0_addNet_38 (by decide) ?_
    refine xt_imul dX0_addNet_39 ?_
    refine xt_callS (h2 := h) (as := [.ref b8, .int ((mI M7 x0 4) * 2)]) (st := [.ref x0]) dX0_addNet_40 (mlX0_79 rfl) rfl (by first | decide | (simp [Value.category]; done)) (Nat.le_refl _) H (fun r M9 HH hE => ?_)
    obtain ⟨b10, hr, H⟩ := HH hE
    subst hr
    have ho1 := ok_E ho1 hE
    show T _ _ _ _ [.ref b10, .ref x0] _ _
    obtain ⟨M11, eM11⟩ : ∃ z, z = wR M9 x0 1 (some b10) := ⟨_, rfl⟩
    have H := H _ eM11
    refine xt_putR dX0_addNet_43 (flX0_13 rfl) ft_2_1 rfl ho1.1 ho1.2 ?_
    have ho1 : ok M11 x0 2 := by rw [eM11]; exact ho1
    rw [← eM11]
    exact xt_sub [0, 1, 2] rfl (VX0_addNet_46 H)
theorem KX0_addNet {h : Nat} {x0 : Nat} {x1 : Int32} {x2 : Int32} {M : Mem} {Q : Option Value → Mem → Prop} (H : DX0_addNet_0 h x0 x1 x2 M Q) : E (h + 1) mdX0_addNet [.ref x0, .int x1, .int x2] M Q := E.of (by decide) (Nat.le_of_ble_eq_true rfl) (fun _ _ _ => trivial) (VX0_addNet_0 H)
def DX0_addSignal_0 (h : Nat) (x0 : Nat) (x1 : Int32) (M : Mem) (Q : Option Value → Mem → Prop) : Prop :=
  ok M x0 2 ∧ ∃ b2 : Nat, mR M x0 13 = some b2 ∧ E h mdX0_fresh [.ref x0] M (fun r M3 => mE M M3 → ∃ r4 : Int32, r = some (.int r4) ∧ ok M3 b2 21 ∧ vp_in x1 (mL M3 b2) ∧ ∀ M6 : Mem, M6 = wAI M3 b2 (x1 : Int32).toNatClampNeg r4 →
  Q none M6)
set_option maxRecDepth 20000 in
set_option maxHeartbeats 2000000 in
theorem VX0_addSignal_0 {h : Nat} {x0 : Nat} {x1 : Int32} {M : Mem} {Q : Option Value → Mem → Prop} (H : DX0_addSignal_0 h x0 x1 M Q) : T (h + 1) mdX0_addSignal 0 [(0, .ref x0), (1, .int x1)] [] M Q := by
  unfold DX0_addSignal_0 at H
  refine xt_aload_n (j := 0) dX0_addSignal_0 rfl rfl ?_
  obtain ⟨ho1, H⟩ := H
  obtain ⟨b2, hb, H⟩ := H
  refine xt_getR dX0_addSignal_1 (flX0_55 rfl) ft_2_13 ho1.1 ho1.2 hb ?_
  refine xt_iload_n (j := 1) dX0_addSignal_4 rfl rfl ?_
  refine xt_aload_n (j := 0) dX0_addSignal_5 rfl rfl ?_
  refine xt_callV (h2 := h) (as := []) (st := [.int x1, .ref b2]) dX0_addSignal_6 (mlX0_61 rfl) rfl ho1.1 ⟨by rw [ho1.2]; rfl, by rw [ho1.2]; decide⟩ (by first | decide | (simp [Value.category]; done)) (Nat.le_refl _) H (fun r M3 HH hE => ?_)
  obtain ⟨r4, hr, H⟩ := HH hE
  subst hr
  have ho1 := ok_E ho1 hE
  show T _ _ _ _ [.int r4, .int x1, .ref b2] _ _
  obtain ⟨ho5, H⟩ := H
  obtain ⟨hi, H⟩ := H
  obtain ⟨M6, eM6⟩ : ∃ z, z = wAI M3 b2 (x1 : Int32).toNatClampNeg r4 := ⟨_, rfl⟩
  have H := H _ eM6
  refine xt_iast dX0_addSignal_9 ho5.1 ho5.2 hi ?_
  have ho1 : ok M6 x0 2 := by rw [eM6]; exact ho1
  rw [← eM6]
  exact xt_return dX0_addSignal_10 rfl H
theorem KX0_addSignal {h : Nat} {x0 : Nat} {x1 : Int32} {M : Mem} {Q : Option Value → Mem → Prop} (H : DX0_addSignal_0 h x0 x1 M Q) : E (h + 1) mdX0_addSignal [.ref x0, .int x1] M Q := E.of (by decide) (Nat.le_of_ble_eq_true rfl) (fun _ _ _ => trivial) (VX0_addSignal_0 H)
def DX0_addIf_0 (h : Nat) (x0 : Nat) (M : Mem) (Q : Option Value → Mem → Prop) : Prop :=
  ok M x0 2 ∧ E h mdX0_fresh [.ref x0] M (fun r M2 => mE M M2 → ∃ r3 : Int32, r = some (.int r3) ∧ ∃ b4 : Nat, mR M2 x0 7 = some b4 ∧ E h mdJ6_valueOf_2dffe [.int r3] M2 (fun r M5 => mE M2 M5 → ∃ b6 : Nat, r = some (.ref b6) ∧ ok M5 b4 1 ∧ E h mdJx4a65c_add_9ea2d [.ref b4, .ref b6] M5 (fun r M8 => mE M5 M8 → ∃ r9 : Int32, r = some (.int r9) ∧ Q (some (.int r3)) M8)))
set_option maxRecDepth 20000 in
set_option maxHeartbeats 2000000 in
theorem VX0_addIf_0 {h : Nat} {x0 : Nat} {M : Mem} {Q : Option Value → Mem → Prop} (H : DX0_addIf_0 h x0 M Q) : T (h + 1) mdX0_addIf 0 [(0, .ref x0)] [] M Q := by
  unfold DX0_addIf_0 at H
  refine xt_aload_n (j := 0) dX0_addIf_0 rfl rfl ?_
  obtain ⟨ho1, H⟩ := H
  refine xt_callV (h2 := h) (as := []) (st := []) dX0_addIf_1 (mlX0_61 rfl) rfl ho1.1 ⟨by rw [ho1.2]; rfl, by rw [ho1.2]; decide⟩ (by first | decide | (simp [Value.category]; done)) (Nat.le_refl _) H (fun r M2 HH hE => ?_)
  obtain ⟨r3, hr, H⟩ := HH hE
  subst hr
  have ho1 := ok_E ho1 hE
  show T _ _ _ _ [.int r3] _ _
  refine xt_istore_n (lv' := [(1, .int r3), (0, .ref x0)]) dX0_addIf_4 rfl (by decide) rfl ?_
  refine xt_aload_n (j := 1) dX0_addIf_5 rfl rfl ?_
  obtain ⟨b4, hb, H⟩ := H
  refine xt_getR dX0_addIf_6 (flX0_36 rfl) ft_2_7 ho1.1 ho1.2 hb ?_
  refine xt_iload_n (j := 0) dX0_addIf_9 rfl rfl ?_
  refine xt_callS (h2 := h) (as := [.int r3]) (st := [.ref b4]) dX0_addIf_10 (mlX0_85 rfl) rfl (by first | decide | (simp [Value.category]; done)) (Nat.le_refl _) H (fun r M5 HH hE => ?_)
  obtain ⟨b6, hr, H⟩ := HH hE
  subst hr
  have ho1 := ok_E ho1 hE
  show T _ _ _ _ [.ref b6, .ref b4] _ _
  obtain ⟨ho7, H⟩ := H
  refine xt_callV (h2 := h) (as := [.ref b6]) (st := []) dX0_addIf_13 (mlX0_91 rfl) rfl ho7.1 ⟨by rw [ho7.2]; rfl, by rw [ho7.2]; decide⟩ (by first | decide | (simp [Value.category]; done)) (Nat.le_refl _) H (fun r M8 HH hE => ?_)
  obtain ⟨r9, hr, H⟩ := HH hE
  subst hr
  have ho1 := ok_E ho1 hE
  show T _ _ _ _ [.int r9] _ _
  refine xt_pop dX0_addIf_16 rfl ?_
  refine xt_iload_n (j := 0) dX0_addIf_17 rfl rfl ?_
  exact xt_ireturn dX0_addIf_18 rfl H
theorem KX0_addIf {h : Nat} {x0 : Nat} {M : Mem} {Q : Option Value → Mem → Prop} (H : DX0_addIf_0 h x0 M Q) : E (h + 1) mdX0_addIf [.ref x0] M Q := E.of (by decide) (Nat.le_of_ble_eq_true rfl) (fun _ _ _ => trivial) (VX0_addIf_0 H)
def DX0_addPause_45 (h : Nat) (M : Mem) (Q : Option Value → Mem → Prop) : Prop :=
  Q none M
set_option maxRecDepth 20000 in
set_option maxHeartbeats 2000000 in
theorem VX0_addPause_45 {h : Nat} {M : Mem} {Q : Option Value → Mem → Prop} (H : DX0_addPause_45 h  M Q) : T (h + 1) mdX0_addPause 45 [] [] M Q := by
  unfold DX0_addPause_45 at H
  exact xt_return dX0_addPause_45 rfl H
def DX0_addPause_0 (h : Nat) (x0 : Nat) (x1 : Int32) (x2 : Int32) (x3 : Int32) (x4 : Int32) (M : Mem) (Q : Option Value → Mem → Prop) : Prop :=
  ok M x0 2 ∧ ∃ b2 : Nat, mR M x0 9 = some b2 ∧ ok M b2 21 ∧ ((Int32.ofNat (mL M b2)) ≤ x1 → DX0_addPause_45 h  M Q) ∧
  (¬ ((Int32.ofNat (mL M b2)) ≤ x1) → ∃ b4 : Nat, mR M x0 9 = some b4 ∧ ok M b4 21 ∧ vp_in x1 (mL M b4) ∧ ∀ M6 : Mem, M6 = wAI M b4 (x1 : Int32).toNatClampNeg x2 →
  ∃ b7 : Nat, mR M6 x0 10 = some b7 ∧ ok M6 b7 21 ∧ vp_in x1 (mL M6 b7) ∧ ∀ M9 : Mem, M9 = wAI M6 b7 (x1 : Int32).toNatClampNeg x3 →
  ∃ b10 : Nat, mR M9 x0 11 = some b10 ∧ ok M9 b10 21 ∧ vp_in x1 (mL M9 b10) ∧ ∀ M12 : Mem, M12 = wAI M9 b10 (x1 : Int32).toNatClampNeg x4 →
  ∀ M13 : Mem, M13 = wI M12 x0 12 (if (mI M12 x0 12) < (x1 + 1) then (x1 + 1) else (mI M12 x0 12)) →
  DX0_addPause_45 h  M13 Q)
set_option maxRecDepth 20000 in
set_option maxHeartbeats 2000000 in
theorem VX0_addPause_0 {h : Nat} {x0 : Nat} {x1 : Int32} {x2 : Int32} {x3 : Int32} {x4 : Int32} {M : Mem} {Q : Option Value → Mem → Prop} (H : DX0_addPause_0 h x0 x1 x2 x3 x4 M Q) : T (h + 1) mdX0_addPause 0 [(0, .ref x0), (1, .int x1), (2, .int x2), (3, .int x3), (4, .int x4)] [] M Q := by
  unfold DX0_addPause_0 at H
  refine xt_iload_n (j := 1) dX0_addPause_0 rfl rfl ?_
  refine xt_aload_n (j := 0) dX0_addPause_1 rfl rfl ?_
  obtain ⟨ho1, H⟩ := H
  obtain ⟨b2, hb, H⟩ := H
  refine xt_getR dX0_addPause_2 (flX0_46 rfl) ft_2_9 ho1.1 ho1.2 hb ?_
  obtain ⟨ho3, H⟩ := H
  refine xt_alen dX0_addPause_5 ho3.1 (Or.inr (Or.inl ho3.2)) ?_
  refine xt_icmp_ge (tgt := 45) dX0_addPause_6 (by decide) (fun hc => ?_) (fun hc => ?_)
  · have H := H.1 hc
    exact xt_sub [] rfl (VX0_addPause_45 H)
  · have H := H.2 hc
    refine xt_aload_n (j := 0) dX0_addPause_9 rfl rfl ?_
    obtain ⟨b4, hb, H⟩ := H
    refine xt_getR dX0_addPause_10 (flX0_46 rfl) ft_2_9 ho1.1 ho1.2 hb ?_
    refine xt_iload_n (j := 1) dX0_addPause_13 rfl rfl ?_
    refine xt_iload_n (j := 2) dX0_addPause_14 rfl rfl ?_
    obtain ⟨ho5, H⟩ := H
    obtain ⟨hi, H⟩ := H
    obtain ⟨M6, eM6⟩ : ∃ z, z = wAI M b4 (x1 : Int32).toNatClampNeg x2 := ⟨_, rfl⟩
    have H := H _ eM6
    refine xt_iast dX0_addPause_15 ho5.1 ho5.2 hi ?_
    have ho1 : ok M6 x0 2 := by rw [eM6]; exact ho1
    rw [← eM6]
    refine xt_aload_n (j := 0) dX0_addPause_16 rfl rfl ?_
    obtain ⟨b7, hb, H⟩ := H
    refine xt_getR dX0_addPause_17 (flX0_49 rfl) ft_2_10 ho1.1 ho1.2 hb ?_
    refine xt_iload_n (j := 1) dX0_addPause_20 rfl rfl ?_
    refine xt_iload_n (j := 3) dX0_addPause_21 rfl rfl ?_
    obtain ⟨ho8, H⟩ := H
    obtain ⟨hi, H⟩ := H
    obtain ⟨M9, eM9⟩ : ∃ z, z = wAI M6 b7 (x1 : Int32).toNatClampNeg x3 := ⟨_, rfl⟩
    have H := H _ eM9
    refine xt_iast dX0_addPause_22 ho8.1 ho8.2 hi ?_
    have ho1 : ok M9 x0 2 := by rw [eM9]; exact ho1
    rw [← eM9]
    refine xt_aload_n (j := 0) dX0_addPause_23 rfl rfl ?_
    obtain ⟨b10, hb, H⟩ := H
    refine xt_getR dX0_addPause_24 (flX0_52 rfl) ft_2_11 ho1.1 ho1.2 hb ?_
    refine xt_iload_n (j := 1) dX0_addPause_27 rfl rfl ?_
    refine xt_iload (j := 4) dX0_addPause_28 rfl ?_
    obtain ⟨ho11, H⟩ := H
    obtain ⟨hi, H⟩ := H
    obtain ⟨M12, eM12⟩ : ∃ z, z = wAI M9 b10 (x1 : Int32).toNatClampNeg x4 := ⟨_, rfl⟩
    have H := H _ eM12
    refine xt_iast dX0_addPause_30 ho11.1 ho11.2 hi ?_
    have ho1 : ok M12 x0 2 := by rw [eM12]; exact ho1
    rw [← eM12]
    refine xt_aload_n (j := 0) dX0_addPause_31 rfl rfl ?_
    refine xt_aload_n (j := 0) dX0_addPause_32 rfl rfl ?_
    refine xt_getI dX0_addPause_33 (flX0_95 rfl) ft_2_12 ho1.1 ho1.2 ?_
    refine xt_iload_n (j := 1) dX0_addPause_36 rfl rfl ?_
    refine xt_iconst (v := 1) dX0_addPause_37 (by decide) ?_
    refine xt_iadd dX0_addPause_38 ?_
    refine xt_mmax dX0_addPause_39 (mmX0_98 rfl) (Nat.succ_le_succ (Nat.zero_le _)) (by first | decide | (simp [Value.category]; done)) ?_
    obtain ⟨M13, eM13⟩ : ∃ z, z = wI M12 x0 12 (if (mI M12 x0 12) < (x1 + 1) then (x1 + 1) else (mI M12 x0 12)) := ⟨_, rfl⟩
    have H := H _ eM13
    refine xt_putI dX0_addPause_42 (flX0_95 rfl) ty_2_12 rfl ho1.1 ho1.2 ?_
    have ho1 : ok M13 x0 2 := by rw [eM13]; exact ho1
    rw [← eM13]
    exact xt_sub [] rfl (VX0_addPause_45 H)
theorem KX0_addPause {h : Nat} {x0 : Nat} {x1 : Int32} {x2 : Int32} {x3 : Int32} {x4 : Int32} {M : Mem} {Q : Option Value → Mem → Prop} (H : DX0_addPause_0 h x0 x1 x2 x3 x4 M Q) : E (h + 1) mdX0_addPause [.ref x0, .int x1, .int x2, .int x3, .int x4] M Q := E.of (by decide) (Nat.le_of_ble_eq_true rfl) (fun _ _ _ => trivial) (VX0_addPause_0 H)
def DX0_beforeOf_19 (h : Nat) (x0 : Nat) (x1 : Int32) (M : Mem) (Q : Option Value → Mem → Prop) : Prop :=
  ok M x0 2 ∧ ∃ b2 : Nat, mR M x0 8 = some b2 ∧ ok M b2 21 ∧ vp_in x1 (mL M b2) ∧ Q (some (.int (mAI M b2 (x1 : Int32).toNatClampNeg))) M
set_option maxRecDepth 20000 in
set_option maxHeartbeats 2000000 in
theorem VX0_beforeOf_19 {h : Nat} {x0 : Nat} {x1 : Int32} {M : Mem} {Q : Option Value → Mem → Prop} (H : DX0_beforeOf_19 h x0 x1 M Q) : T (h + 1) mdX0_beforeOf 19 [(0, .ref x0), (1, .int x1)] [] M Q := by
  unfold DX0_beforeOf_19 at H
  refine xt_aload_n (j := 0) dX0_beforeOf_19 rfl rfl ?_
  obtain ⟨ho1, H⟩ := H
  obtain ⟨b2, hb, H⟩ := H
  refine xt_getR dX0_beforeOf_20 (flX0_41 rfl) ft_2_8 ho1.1 ho1.2 hb ?_
  refine xt_iload_n (j := 1) dX0_beforeOf_23 rfl rfl ?_
  obtain ⟨ho3, H⟩ := H
  obtain ⟨hi, H⟩ := H
  refine xt_iald dX0_beforeOf_24 ho3.1 ho3.2 hi ?_
  exact xt_ireturn dX0_beforeOf_25 rfl H
def DX0_beforeOf_0 (h : Nat) (x0 : Nat) (x1 : Int32) (M : Mem) (Q : Option Value → Mem → Prop) : Prop :=
  ok M x0 2 ∧ ∃ b2 : Nat, mR M x0 8 = some b2 ∧ ok M b2 21 ∧ vp_in x1 (mL M b2) ∧ (¬ (mAI M b2 (x1 : Int32).toNatClampNeg) = 0 → DX0_beforeOf_19 h x0 x1 M Q) ∧
  ((mAI M b2 (x1 : Int32).toNatClampNeg) = 0 → ∃ b4 : Nat, mR M x0 8 = some b4 ∧ E h mdX0_fresh [.ref x0] M (fun r M5 => mE M M5 → ∃ r6 : Int32, r = some (.int r6) ∧ ok M5 b4 21 ∧ vp_in x1 (mL M5 b4) ∧ ∀ M8 : Mem, M8 = wAI M5 b4 (x1 : Int32).toNatClampNeg r6 →
  DX0_beforeOf_19 h x0 x1 M8 Q))
set_option maxRecDepth 20000 in
set_option maxHeartbeats 2000000 in
theorem VX0_beforeOf_0 {h : Nat} {x0 : Nat} {x1 : Int32} {M : Mem} {Q : Option Value → Mem → Prop} (H : DX0_beforeOf_0 h x0 x1 M Q) : T (h + 1) mdX0_beforeOf 0 [(0, .ref x0), (1, .int x1)] [] M Q := by
  unfold DX0_beforeOf_0 at H
  refine xt_aload_n (j := 0) dX0_beforeOf_0 rfl rfl ?_
  obtain ⟨ho1, H⟩ := H
  obtain ⟨b2, hb, H⟩ := H
  refine xt_getR dX0_beforeOf_1 (flX0_41 rfl) ft_2_8 ho1.1 ho1.2 hb ?_
  refine xt_iload_n (j := 1) dX0_beforeOf_4 rfl rfl ?_
  obtain ⟨ho3, H⟩ := H
  obtain ⟨hi, H⟩ := H
  refine xt_iald dX0_beforeOf_5 ho3.1 ho3.2 hi ?_
  refine xt_if_ne (tgt := 19) dX0_beforeOf_6 (by decide) (fun hc => ?_) (fun hc => ?_)
  · have H := H.1 hc
    exact xt_sub [0, 1] rfl (VX0_beforeOf_19 H)
  · have H := H.2 hc
    refine xt_aload_n (j := 0) dX0_beforeOf_9 rfl rfl ?_
    obtain ⟨b4, hb, H⟩ := H
    refine xt_getR dX0_beforeOf_10 (flX0_41 rfl) ft_2_8 ho1.1 ho1.2 hb ?_
    refine xt_iload_n (j := 1) dX0_beforeOf_13 rfl rfl ?_
    refine xt_aload_n (j := 0) dX0_beforeOf_14 rfl rfl ?_
    refine xt_callV (h2 := h) (as := []) (st := [.int x1, .ref b4]) dX0_beforeOf_15 (mlX0_61 rfl) rfl ho1.1 ⟨by rw [ho1.2]; rfl, by rw [ho1.2]; decide⟩ (by first | decide | (simp [Value.category]; done)) (Nat.le_refl _) H (fun r M5 HH hE => ?_)
    obtain ⟨r6, hr, H⟩ := HH hE
    subst hr
    have ho1 := ok_E ho1 hE
    show T _ _ _ _ [.int r6, .int x1, .ref b4] _ _
    obtain ⟨ho7, H⟩ := H
    obtain ⟨hi, H⟩ := H
    obtain ⟨M8, eM8⟩ : ∃ z, z = wAI M5 b4 (x1 : Int32).toNatClampNeg r6 := ⟨_, rfl⟩
    have H := H _ eM8
    refine xt_iast dX0_beforeOf_18 ho7.1 ho7.2 hi ?_
    have ho1 : ok M8 x0 2 := by rw [eM8]; exact ho1
    rw [← eM8]
    exact xt_sub [0, 1] rfl (VX0_beforeOf_19 H)
theorem KX0_beforeOf {h : Nat} {x0 : Nat} {x1 : Int32} {M : Mem} {Q : Option Value → Mem → Prop} (H : DX0_beforeOf_0 h x0 x1 M Q) : E (h + 1) mdX0_beforeOf [.ref x0, .int x1] M Q := E.of (by decide) (Nat.le_of_ble_eq_true rfl) (fun _ _ _ => trivial) (VX0_beforeOf_0 H)
def DX0_beforeMask_28 (h : Nat) (x0 : Nat) (x1 : Int32) (x2 : Int32) (M : Mem) (Q : Option Value → Mem → Prop) : Prop :=
  T (h + 1) mdX0_beforeMask 4 [(0, .ref x0), (1, .int x1), (2, .int (x2 + 1))] [] M Q
set_option maxRecDepth 20000 in
set_option maxHeartbeats 2000000 in
theorem VX0_beforeMask_28 {h : Nat} {x0 : Nat} {x1 : Int32} {x2 : Int32} {M : Mem} {Q : Option Value → Mem → Prop} (H : DX0_beforeMask_28 h x0 x1 x2 M Q) : T (h + 1) mdX0_beforeMask 28 [(0, .ref x0), (1, .int x1), (2, .int x2)] [] M Q := by
  unfold DX0_beforeMask_28 at H
  refine xt_iinc (j := 2) (v := x2 + 1) (lv' := [(2, .int (x2 + 1)), (0, .ref x0), (1, .int x1)]) dX0_beforeMask_28 rfl (by rfl) (by decide) rfl ?_
  refine xt_goto (tgt := 4) dX0_beforeMask_31 (by decide) ?_
  exact xt_sub (lv' := [(0, .ref x0), (1, .int x1), (2, .int (x2 + 1))]) [1, 2, 0] rfl H
def DX0_beforeMask_4 (h : Nat) (x0 : Nat) (x1 : Int32) (x2 : Int32) (M : Mem) (Q : Option Value → Mem → Prop) : Prop :=
  ok M x0 2 ∧ ∃ b2 : Nat, mR M x0 8 = some b2 ∧ ok M b2 21 ∧ ((Int32.ofNat (mL M b2)) ≤ x2 → Q (some (.int x1)) M) ∧
  (¬ ((Int32.ofNat (mL M b2)) ≤ x2) → ∃ b4 : Nat, mR M x0 8 = some b4 ∧ ok M b4 21 ∧ vp_in x2 (mL M b4) ∧ ((mAI M b4 (x2 : Int32).toNatClampNeg) = 0 → DX0_beforeMask_28 h x0 x1 x2 M Q) ∧
  (¬ ((mAI M b4 (x2 : Int32).toNatClampNeg) = 0) → DX0_beforeMask_28 h x0 (x1 ||| ((1 : Int32) <<< (x2 &&& 31))) x2 M Q))
set_option maxRecDepth 20000 in
set_option maxHeartbeats 2000000 in
theorem VX0_beforeMask_4 {h : Nat} {x0 : Nat} {x1 : Int32} {x2 : Int32} {M : Mem} {Q : Option Value → Mem → Prop} (H : DX0_beforeMask_4 h x0 x1 x2 M Q) : T (h + 1) mdX0_beforeMask 4 [(0, .ref x0), (1, .int x1), (2, .int x2)] [] M Q := by
  unfold DX0_beforeMask_4 at H
  refine xt_iload_n (j := 2) dX0_beforeMask_4 rfl rfl ?_
  refine xt_aload_n (j := 0) dX0_beforeMask_5 rfl rfl ?_
  obtain ⟨ho1, H⟩ := H
  obtain ⟨b2, hb, H⟩ := H
  refine xt_getR dX0_beforeMask_6 (flX0_41 rfl) ft_2_8 ho1.1 ho1.2 hb ?_
  obtain ⟨ho3, H⟩ := H
  refine xt_alen dX0_beforeMask_9 ho3.1 (Or.inr (Or.inl ho3.2)) ?_
  refine xt_icmp_ge (tgt := 34) dX0_beforeMask_10 (by decide) (fun hc => ?_) (fun hc => ?_)
  · have H := H.1 hc
    refine xt_iload_n (j := 1) dX0_beforeMask_34 rfl rfl ?_
    exact xt_ireturn dX0_beforeMask_35 rfl H
  · have H := H.2 hc
    refine xt_aload_n (j := 0) dX0_beforeMask_13 rfl rfl ?_
    obtain ⟨b4, hb, H⟩ := H
    refine xt_getR dX0_beforeMask_14 (flX0_41 rfl) ft_2_8 ho1.1 ho1.2 hb ?_
    refine xt_iload_n (j := 2) dX0_beforeMask_17 rfl rfl ?_
    obtain ⟨ho5, H⟩ := H
    obtain ⟨hi, H⟩ := H
    refine xt_iald dX0_beforeMask_18 ho5.1 ho5.2 hi ?_
    refine xt_if_eq (tgt := 28) dX0_beforeMask_19 (by decide) (fun hc => ?_) (fun hc => ?_)
    · have H := H.1 hc
      exact xt_sub [0, 1, 2] rfl (VX0_beforeMask_28 H)
    · have H := H.2 hc
      refine xt_iload_n (j := 1) dX0_beforeMask_22 rfl rfl ?_
      refine xt_iconst (v := 1) dX0_beforeMask_23 (by decide) ?_
      refine xt_iload_n (j := 2) dX0_beforeMask_24 rfl rfl ?_
      refine xt_ishl dX0_beforeMask_25 ?_
      refine xt_ior dX0_beforeMask_26 ?_
      refine xt_istore_n (lv' := [(1, .int (x1 ||| ((1 : Int32) <<< (x2 &&& 31)))), (0, .ref x0), (2, .int x2)]) dX0_beforeMask_27 rfl (by decide) rfl ?_
      exact xt_sub [1, 0, 2] rfl (VX0_beforeMask_28 H)
def DX0_beforeMask_0 (h : Nat) (x0 : Nat) (M : Mem) (Q : Option Value → Mem → Prop) : Prop :=
  T (h + 1) mdX0_beforeMask 4 [(0, .ref x0), (1, .int 0), (2, .int 0)] [] M Q
set_option maxRecDepth 20000 in
set_option maxHeartbeats 2000000 in
theorem VX0_beforeMask_0 {h : Nat} {x0 : Nat} {M : Mem} {Q : Option Value → Mem → Prop} (H : DX0_beforeMask_0 h x0 M Q) : T (h + 1) mdX0_beforeMask 0 [(0, .ref x0)] [] M Q := by
  unfold DX0_beforeMask_0 at H
  refine xt_iconst (v := 0) dX0_beforeMask_0 (by decide) ?_
  refine xt_istore_n (lv' := [(1, .int 0), (0, .ref x0)]) dX0_beforeMask_1 rfl (by decide) rfl ?_
  refine xt_iconst (v := 0) dX0_beforeMask_2 (by decide) ?_
  refine xt_istore_n (lv' := [(2, .int 0), (1, .int 0), (0, .ref x0)]) dX0_beforeMask_3 rfl (by decide) rfl ?_
  exact xt_sub (lv' := [(0, .ref x0), (1, .int 0), (2, .int 0)]) [2, 1, 0] rfl H
theorem KX0_beforeMask {h : Nat} {x0 : Nat} {M : Mem} {Q : Option Value → Mem → Prop} (H : DX0_beforeMask_0 h x0 M Q) : E (h + 1) mdX0_beforeMask [.ref x0] M Q := E.of (by decide) (Nat.le_of_ble_eq_true rfl) (fun _ _ _ => trivial) (VX0_beforeMask_0 H)
def DX0_holding_8 (h : Nat) (x0 : Nat) (x1 : Int32) (x2 : Int32) (M : Mem) (Q : Option Value → Mem → Prop) : Prop :=
  ok M x0 2 ∧ ∃ b2 : Nat, mR M x0 5 = some b2 ∧ ok M b2 1 ∧ E h mdJx4a65c_size_8abf5 [.ref b2] M (fun r M4 => mE M M4 → ∃ r5 : Int32, r = some (.int r5) ∧ (r5 ≤ x2 → E h mdX0_fresh [.ref x0] M4 (fun r M6 => mE M4 M6 → ∃ r7 : Int32, r = some (.int r7) ∧ ∃ b8 : Nat, mR M6 x0 5 = some b8 ∧ E h mdJ6_valueOf_2dffe [.int x1] M6 (fun r M9 => mE M6 M9 → ∃ b10 : Nat, r = some (.ref b10) ∧ ok M9 b8 1 ∧ E h mdJx4a65c_add_9ea2d [.ref b8, .ref b10] M9 (fun r M12 => mE M9 M12 → ∃ r13 : Int32, r = some (.int r13) ∧ ∃ b14 : Nat, mR M12 x0 6 = some b14 ∧ E h mdJ6_valueOf_2dffe [.int r7] M12 (fun r M15 => mE M12 M15 → ∃ b16 : Nat, r = some (.ref b16) ∧ ok M15 b14 1 ∧ E h mdJx4a65c_add_9ea2d [.ref b14, .ref b16] M15 (fun r M18 => mE M15 M18 → ∃ r19 : Int32, r = some (.int r19) ∧ Q (some (.int r7)) M18)))))) ∧
  (¬ (r5 ≤ x2) → ∃ b20 : Nat, mR M4 x0 5 = some b20 ∧ ok M4 b20 1 ∧ E h mdJx4a65c_get_915e3 [.ref b20, .int x2] M4 (fun r M22 => mE M4 M22 → ∃ b23 : Nat, r = some (.ref b23) ∧ ok M22 b23 0 ∧ E h mdJ6_intValue_8abf5 [.ref b23] M22 (fun r M25 => mE M22 M25 → ∃ r26 : Int32, r = some (.int r26) ∧ (¬ r26 = x1 → T (h + 1) mdX0_holding 8 [(0, .ref x0), (1, .int x1), (2, .int (x2 + 1))] [] M25 Q) ∧
  (r26 = x1 → ∃ b27 : Nat, mR M25 x0 6 = some b27 ∧ ok M25 b27 1 ∧ E h mdJx4a65c_get_915e3 [.ref b27, .int x2] M25 (fun r M29 => mE M25 M29 → ∃ b30 : Nat, r = some (.ref b30) ∧ ok M29 b30 0 ∧ E h mdJ6_intValue_8abf5 [.ref b30] M29 (fun r M32 => mE M29 M32 → ∃ r33 : Int32, r = some (.int r33) ∧ Q (some (.int r33)) M32)))))))
set_option maxRecDepth 20000 in
set_option maxHeartbeats 2000000 in
theorem VX0_holding_8 {h : Nat} {x0 : Nat} {x1 : Int32} {x2 : Int32} {M : Mem} {Q : Option Value → Mem → Prop} (H : DX0_holding_8 h x0 x1 x2 M Q) : T (h + 1) mdX0_holding 8 [(0, .ref x0), (1, .int x1), (2, .int x2)] [] M Q := by
  unfold DX0_holding_8 at H
  refine xt_iload_n (j := 2) dX0_holding_8 rfl rfl ?_
  refine xt_aload_n (j := 0) dX0_holding_9 rfl rfl ?_
  obtain ⟨ho1, H⟩ := H
  obtain ⟨b2, hb, H⟩ := H
  refine xt_getR dX0_holding_10 (flX0_29 rfl) ft_2_5 ho1.1 ho1.2 hb ?_
  obtain ⟨ho3, H⟩ := H
  refine xt_callV (h2 := h) (as := []) (st := [.int x2]) dX0_holding_13 (mlX0_103 rfl) rfl ho3.1 ⟨by rw [ho3.2]; rfl, by rw [ho3.2]; decide⟩ (by first | decide | (simp [Value.category]; done)) (Nat.le_refl _) H (fun r M4 HH hE => ?_)
  obtain ⟨r5, hr, H⟩ := HH hE
  subst hr
  have ho1 := ok_E ho1 hE
  show T _ _ _ _ [.int r5, .int x2] _ _
  refine xt_icmp_ge (tgt := 60) dX0_holding_16 (by decide) (fun hc => ?_) (fun hc => ?_)
  · have H := H.1 hc
    refine xt_aload_n (j := 0) dX0_holding_60 rfl rfl ?_
    refine xt_callV (h2 := h) (as := []) (st := []) dX0_holding_61 (mlX0_61 rfl) rfl ho1.1 ⟨by rw [ho1.2]; rfl, by rw [ho1.2]; decide⟩ (by first | decide | (simp [Value.category]; done)) (Nat.le_refl _) H (fun r M6 HH hE => ?_)
    obtain ⟨r7, hr, H⟩ := HH hE
    subst hr
    have ho1 := ok_E ho1 hE
    show T _ _ _ _ [.int r7] _ _
    refine xt_istore_n (lv' := [(2, .int r7), (0, .ref x0), (1, .int x1)]) dX0_holding_64 rfl (by decide) rfl ?_
    refine xt_aload_n (j := 1) dX0_holding_65 rfl rfl ?_
    obtain ⟨b8, hb, H⟩ := H
    refine xt_getR dX0_holding_66 (flX0_29 rfl) ft_2_5 ho1.1 ho1.2 hb ?_
    refine xt_iload_n (j := 2) dX0_holding_69 rfl rfl ?_
    refine xt_callS (h2 := h) (as := [.int x1]) (st := [.ref b8]) dX0_holding_70 (mlX0_85 rfl) rfl (by first | decide | (simp [Value.category]; done)) (Nat.le_refl _) H (fun r M9 HH hE => ?_)
    obtain ⟨b10, hr, H⟩ := HH hE
    subst hr
    have ho1 := ok_E ho1 hE
    show T _ _ _ _ [.ref b10, .ref b8] _ _
    obtain ⟨ho11, H⟩ := H
    refine xt_callV (h2 := h) (as := [.ref b10]) (st := []) dX0_holding_73 (mlX0_91 rfl) rfl ho11.1 ⟨by rw [ho11.2]; rfl, by rw [ho11.2]; decide⟩ (by first | decide | (simp [Value.category]; done)) (Nat.le_refl _) H (fun r M12 HH hE => ?_)
    obtain ⟨r13, hr, H⟩ := HH hE
    subst hr
    have ho1 := ok_E ho1 hE
    show T _ _ _ _ [.int r13] _ _
    refine xt_pop dX0_holding_76 rfl ?_
    refine xt_aload_n (j := 1) dX0_holding_77 rfl rfl ?_
    obtain ⟨b14, hb, H⟩ := H
    refine xt_getR dX0_holding_78 (flX0_33 rfl) ft_2_6 ho1.1 ho1.2 hb ?_
    refine xt_iload_n (j := 0) dX0_holding_81 rfl rfl ?_
    refine xt_callS (h2 := h) (as := [.int r7]) (st := [.ref b14]) dX0_holding_82 (mlX0_85 rfl) rfl (by first | decide | (simp [Value.category]; done)) (Nat.le_refl _) H (fun r M15 HH hE => ?_)
    obtain ⟨b16, hr, H⟩ := HH hE
    subst hr
    have ho1 := ok_E ho1 hE
    show T _ _ _ _ [.ref b16, .ref b14] _ _
    obtain ⟨ho17, H⟩ := H
    refine xt_callV (h2 := h) (as := [.ref b16]) (st := []) dX0_holding_85 (mlX0_91 rfl) rfl ho17.1 ⟨by rw [ho17.2]; rfl, by rw [ho17.2]; decide⟩ (by first | decide | (simp [Value.category]; done)) (Nat.le_refl _) H (fun r M18 HH hE => ?_)
    obtain ⟨r19, hr, H⟩ := HH hE
    subst hr
    have ho1 := ok_E ho1 hE
    show T _ _ _ _ [.int r19] _ _
    refine xt_pop dX0_holding_88 rfl ?_
    refine xt_iload_n (j := 0) dX0_holding_89 rfl rfl ?_
    exact xt_ireturn dX0_holding_90 rfl H
  · have H := H.2 hc
    refine xt_aload_n (j := 0) dX0_holding_19 rfl rfl ?_
    obtain ⟨b20, hb, H⟩ := H
    refine xt_getR dX0_holding_20 (flX0_29 rfl) ft_2_5 ho1.1 ho1.2 hb ?_
    refine xt_iload_n (j := 2) dX0_holding_23 rfl rfl ?_
    obtain ⟨ho21, H⟩ := H
    refine xt_callV (h2 := h) (as := [.int x2]) (st := []) dX0_holding_24 (mlX0_106 rfl) rfl ho21.1 ⟨by rw [ho21.2]; rfl, by rw [ho21.2]; decide⟩ (by first | decide | (simp [Value.category]; done)) (Nat.le_refl _) H (fun r M22 HH hE => ?_)
    obtain ⟨b23, hr, H⟩ := HH hE
    subst hr
    have ho1 := ok_E ho1 hE
    show T _ _ _ _ [.ref b23] _ _
    obtain ⟨ho24, H⟩ := H
    refine xt_cast dX0_holding_27 (ccX0_86 rfl) ho24.1 ho24.2 ?_
    refine xt_callV (h2 := h) (as := []) (st := []) dX0_holding_30 (mlX0_110 rfl) rfl ho24.1 ⟨by rw [ho24.2]; rfl, by rw [ho24.2]; decide⟩ (by first | decide | (simp [Value.category]; done)) (Nat.le_refl _) H (fun r M25 HH hE => ?_)
    obtain ⟨r26, hr, H⟩ := HH hE
    subst hr
    have ho1 := ok_E ho1 hE
    show T _ _ _ _ [.int r26] _ _
    refine xt_istore_n (lv' := [(3, .int r26), (0, .ref x0), (1, .int x1), (2, .int x2)]) dX0_holding_33 rfl (by decide) rfl ?_
    refine xt_iload_n (j := 0) dX0_holding_34 rfl rfl ?_
    refine xt_iload_n (j := 2) dX0_holding_35 rfl rfl ?_
    refine xt_icmp_ne (tgt := 54) dX0_holding_36 (by decide) (fun hc => ?_) (fun hc => ?_)
    · have H := H.1 hc
      refine xt_iinc (j := 3) (v := x2 + 1) (lv' := [(2, .int (x2 + 1)), (3, .int r26), (0, .ref x0), (1, .int x1)]) dX0_holding_54 rfl (by rfl) (by decide) rfl ?_
      refine xt_goto (tgt := 8) dX0_holding_57 (by decide) ?_
      exact xt_sub (lv' := [(0, .ref x0), (1, .int x1), (2, .int (x2 + 1))]) [2, 3, 0] rfl H
    · have H := H.2 hc
      refine xt_aload_n (j := 1) dX0_holding_39 rfl rfl ?_
      obtain ⟨b27, hb, H⟩ := H
      refine xt_getR dX0_holding_40 (flX0_33 rfl) ft_2_6 ho1.1 ho1.2 hb ?_
      refine xt_iload_n (j := 3) dX0_holding_43 rfl rfl ?_
      obtain ⟨ho28, H⟩ := H
      refine xt_callV (h2 := h) (as := [.int x2]) (st := []) dX0_holding_44 (mlX0_106 rfl) rfl ho28.1 ⟨by rw [ho28.2]; rfl, by rw [ho28.2]; decide⟩ (by first | decide | (simp [Value.category]; done)) (Nat.le_refl _) H (fun r M29 HH hE => ?_)
      obtain ⟨b30, hr, H⟩ := HH hE
      subst hr
      have ho1 := ok_E ho1 hE
      show T _ _ _ _ [.ref b30] _ _
      obtain ⟨ho31, H⟩ := H
      refine xt_cast dX0_holding_47 (ccX0_86 rfl) ho31.1 ho31.2 ?_
      refine xt_callV (h2 := h) (as := []) (st := []) dX0_holding_50 (mlX0_110 rfl) rfl ho31.1 ⟨by rw [ho31.2]; rfl, by rw [ho31.2]; decide⟩ (by first | decide | (simp [Value.category]; done)) (Nat.le_refl _) H (fun r M32 HH hE => ?_)
      obtain ⟨r33, hr, H⟩ := HH hE
      subst hr
      have ho1 := ok_E ho1 hE
      show T _ _ _ _ [.int r33] _ _
      exact xt_ireturn dX0_holding_53 rfl H
def DX0_holding_0 (h : Nat) (x0 : Nat) (x1 : Int32) (M : Mem) (Q : Option Value → Mem → Prop) : Prop :=
  (¬ x1 = 0 → T (h + 1) mdX0_holding 8 [(0, .ref x0), (1, .int x1), (2, .int 0)] [] M Q) ∧
  (x1 = 0 → Q (some (.int 0)) M)
set_option maxRecDepth 20000 in
set_option maxHeartbeats 2000000 in
theorem VX0_holding_0 {h : Nat} {x0 : Nat} {x1 : Int32} {M : Mem} {Q : Option Value → Mem → Prop} (H : DX0_holding_0 h x0 x1 M Q) : T (h + 1) mdX0_holding 0 [(0, .ref x0), (1, .int x1)] [] M Q := by
  unfold DX0_holding_0 at H
  refine xt_iload_n (j := 1) dX0_holding_0 rfl rfl ?_
  refine xt_if_ne (tgt := 6) dX0_holding_1 (by decide) (fun hc => ?_) (fun hc => ?_)
  · have H := H.1 hc
    refine xt_iconst (v := 0) dX0_holding_6 (by decide) ?_
    refine xt_istore_n (lv' := [(2, .int 0), (0, .ref x0), (1, .int x1)]) dX0_holding_7 rfl (by decide) rfl ?_
    exact xt_sub (lv' := [(0, .ref x0), (1, .int x1), (2, .int 0)]) [1, 2, 0] rfl H
  · have H := H.2 hc
    refine xt_iconst (v := 0) dX0_holding_4 (by decide) ?_
    exact xt_ireturn dX0_holding_5 rfl H
theorem KX0_holding {h : Nat} {x0 : Nat} {x1 : Int32} {M : Mem} {Q : Option Value → Mem → Prop} (H : DX0_holding_0 h x0 x1 M Q) : E (h + 1) mdX0_holding [.ref x0, .int x1] M Q := E.of (by decide) (Nat.le_of_ble_eq_true rfl) (fun _ _ _ => trivial) (VX0_holding_0 H)
def DX0_stand_185 (h : Nat) (x0 : Nat) (x2 : Int32) (x4 : Int32) (M : Mem) (Q : Option Value → Mem → Prop) : Prop :=
  T (h + 1) mdX0_stand 140 [(0, .ref x0), (2, .int x2), (4, .int (x4 + 1))] [] M Q
set_option maxRecDepth 20000 in
set_option maxHeartbeats 2000000 in
theorem VX0_stand_185 {h : Nat} {x0 : Nat} {x2 : Int32} {x4 : Int32} {M : Mem} {Q : Option Value → Mem → Prop} (H : DX0_stand_185 h x0 x2 x4 M Q) : T (h + 1) mdX0_stand 185 [(0, .ref x0), (2, .int x2), (4, .int x4)] [] M Q := by
  unfold DX0_stand_185 at H
  refine xt_iinc (j := 2) (v := x4 + 1) (lv' := [(4, .int (x4 + 1)), (0, .ref x0), (2, .int x2)]) dX0_stand_185 rfl (by rfl) (by decide) rfl ?_
  refine xt_goto (tgt := 140) dX0_stand_188 (by decide) ?_
  exact xt_sub (lv' := [(0, .ref x0), (2, .int x2), (4, .int (x4 + 1))]) [1, 2, 0] rfl H
def DX0_stand_182 (h : Nat) (x0 : Nat) (x2 : Int32) (x4 : Int32) (s0 : Nat) (s1 : Int32) (s2 : Int32) (M : Mem) (Q : Option Value → Mem → Prop) : Prop :=
  ok M s0 2 ∧ E h mdX0_tell [.ref s0, .int s1, .int s2] M (fun r M2 => mE M M2 → r = none ∧ DX0_stand_185 h x0 x2 x4 M2 Q)
set_option maxRecDepth 20000 in
set_option maxHeartbeats 2000000 in
theorem VX0_stand_182 {h : Nat} {x0 : Nat} {x2 : Int32} {x4 : Int32} {s0 : Nat} {s1 : Int32} {s2 : Int32} {M : Mem} {Q : Option Value → Mem → Prop} (H : DX0_stand_182 h x0 x2 x4 s0 s1 s2 M Q) : T (h + 1) mdX0_stand 182 [(0, .ref x0), (2, .int x2), (4, .int x4)] [.int s2, .int s1, .ref s0] M Q := by
  unfold DX0_stand_182 at H
  obtain ⟨ho1, H⟩ := H
  refine xt_callV (h2 := h) (as := [.int s1, .int s2]) (st := []) dX0_stand_182 (mlX0_117 rfl) rfl ho1.1 ⟨by rw [ho1.2]; rfl, by rw [ho1.2]; decide⟩ (by first | decide | (simp [Value.category]; done)) (Nat.le_refl _) H (fun r M2 HH hE => ?_)
  obtain ⟨hr, H⟩ := HH hE
  subst hr
  show T _ _ _ _ [] _ _
  exact xt_sub [0, 1, 2] rfl (VX0_stand_185 H)
def DX0_stand_140 (h : Nat) (x0 : Nat) (x2 : Int32) (x4 : Int32) (M : Mem) (Q : Option Value → Mem → Prop) : Prop :=
  ok M x0 2 ∧ ∃ b2 : Nat, mR M x0 8 = some b2 ∧ ok M b2 21 ∧ ((Int32.ofNat (mL M b2)) ≤ x4 → Q none M) ∧
  (¬ ((Int32.ofNat (mL M b2)) ≤ x4) → ∃ b4 : Nat, mR M x0 8 = some b4 ∧ ok M b4 21 ∧ vp_in x4 (mL M b4) ∧ ((mAI M b4 (x4 : Int32).toNatClampNeg) = 0 → DX0_stand_185 h x0 x2 x4 M Q) ∧
  (¬ ((mAI M b4 (x4 : Int32).toNatClampNeg) = 0) → ∃ b6 : Nat, mR M x0 8 = some b6 ∧ ok M b6 21 ∧ vp_in x4 (mL M b6) ∧ (((((x2 : Int32).toUInt32 >>> ((x4 : Int32).toUInt32 &&& Int32.toUInt32 31)).toInt32) &&& 1) = 0 → DX0_stand_182 h x0 x2 x4 x0 (mAI M b6 (x4 : Int32).toNatClampNeg) 0 M Q) ∧
  (¬ (((((x2 : Int32).toUInt32 >>> ((x4 : Int32).toUInt32 &&& Int32.toUInt32 31)).toInt32) &&& 1) = 0) → DX0_stand_182 h x0 x2 x4 x0 (mAI M b6 (x4 : Int32).toNatClampNeg) (-1) M Q)))
set_option maxRecDepth 20000 in
set_option maxHeartbeats 2000000 in
theorem VX0_stand_140 {h : Nat} {x0 : Nat} {x2 : Int32} {x4 : Int32} {M : Mem} {Q : Option Value → Mem → Prop} (H : DX0_stand_140 h x0 x2 x4 M Q) : T (h + 1) mdX0_stand 140 [(0, .ref x0), (2, .int x2), (4, .int x4)] [] M Q := by
  unfold DX0_stand_140 at H
  refine xt_iload (j := 2) dX0_stand_140 rfl ?_
  refine xt_aload_n (j := 0) dX0_stand_142 rfl rfl ?_
  obtain ⟨ho1, H⟩ := H
  obtain ⟨b2, hb, H⟩ := H
  refine xt_getR dX0_stand_143 (flX0_41 rfl) ft_2_8 ho1.1 ho1.2 hb ?_
  obtain ⟨ho3, H⟩ := H
  refine xt_alen dX0_stand_146 ho3.1 (Or.inr (Or.inl ho3.2)) ?_
  refine xt_icmp_ge (tgt := 191) dX0_stand_147 (by decide) (fun hc => ?_) (fun hc => ?_)
  · have H := H.1 hc
    exact xt_return dX0_stand_191 rfl H
  · have H := H.2 hc
    refine xt_aload_n (j := 0) dX0_stand_150 rfl rfl ?_
    obtain ⟨b4, hb, H⟩ := H
    refine xt_getR dX0_stand_151 (flX0_41 rfl) ft_2_8 ho1.1 ho1.2 hb ?_
    refine xt_iload (j := 2) dX0_stand_154 rfl ?_
    obtain ⟨ho5, H⟩ := H
    obtain ⟨hi, H⟩ := H
    refine xt_iald dX0_stand_156 ho5.1 ho5.2 hi ?_
    refine xt_if_eq (tgt := 185) dX0_stand_157 (by decide) (fun hc => ?_) (fun hc => ?_)
    · have H := H.1 hc
      exact xt_sub [0, 1, 2] rfl (VX0_stand_185 H)
    · have H := H.2 hc
      refine xt_aload_n (j := 0) dX0_stand_160 rfl rfl ?_
      refine xt_aload_n (j := 0) dX0_stand_161 rfl rfl ?_
      obtain ⟨b6, hb, H⟩ := H
      refine xt_getR dX0_stand_162 (flX0_41 rfl) ft_2_8 ho1.1 ho1.2 hb ?_
      refine xt_iload (j := 2) dX0_stand_165 rfl ?_
      obtain ⟨ho7, H⟩ := H
      obtain ⟨hi, H⟩ := H
      refine xt_iald dX0_stand_167 ho7.1 ho7.2 hi ?_
      refine xt_iload_n (j := 1) dX0_stand_168 rfl rfl ?_
      refine xt_iload (j := 2) dX0_stand_169 rfl ?_
      refine xt_iushr dX0_stand_171 ?_
      refine xt_iconst (v := 1) dX0_stand_172 (by decide) ?_
      refine xt_iand dX0_stand_173 ?_
      refine xt_if_eq (tgt := 181) dX0_stand_174 (by decide) (fun hc => ?_) (fun hc => ?_)
      · have H := H.1 hc
        refine xt_iconst (v := 0) dX0_stand_181 (by decide) ?_
        exact xt_sub [0, 1, 2] rfl (VX0_stand_182 H)
      · have H := H.2 hc
        refine xt_iconst (v := -1) dX0_stand_177 (by decide) ?_
        refine xt_goto (tgt := 182) dX0_stand_178 (by decide) ?_
        exact xt_sub [0, 1, 2] rfl (VX0_stand_182 H)
def DX0_stand_128 (h : Nat) (x0 : Nat) (x1 : Int32) (x2 : Int32) (x4 : Int32) (s0 : Nat) (s1 : Int32) (s2 : Int32) (M : Mem) (Q : Option Value → Mem → Prop) : Prop :=
  ok M s0 2 ∧ E h mdX0_tell [.ref s0, .int s1, .int s2] M (fun r M2 => mE M M2 → r = none ∧ T (h + 1) mdX0_stand 75 [(0, .ref x0), (1, .int x1), (2, .int x2), (4, .int (x4 + 1))] [] M2 Q)
set_option maxRecDepth 20000 in
set_option maxHeartbeats 2000000 in
theorem VX0_stand_128 {h : Nat} {x0 : Nat} {x1 : Int32} {x2 : Int32} {x4 : Int32} {s0 : Nat} {s1 : Int32} {s2 : Int32} {M : Mem} {Q : Option Value → Mem → Prop} (H : DX0_stand_128 h x0 x1 x2 x4 s0 s1 s2 M Q) : T (h + 1) mdX0_stand 128 [(0, .ref x0), (1, .int x1), (2, .int x2), (4, .int x4)] [.int s2, .int s1, .ref s0] M Q := by
  unfold DX0_stand_128 at H
  obtain ⟨ho1, H⟩ := H
  refine xt_callV (h2 := h) (as := [.int s1, .int s2]) (st := []) dX0_stand_128 (mlX0_117 rfl) rfl ho1.1 ⟨by rw [ho1.2]; rfl, by rw [ho1.2]; decide⟩ (by first | decide | (simp [Value.category]; done)) (Nat.le_refl _) H (fun r M2 HH hE => ?_)
  obtain ⟨hr, H⟩ := HH hE
  subst hr
  show T _ _ _ _ [] _ _
  refine xt_iinc (j := 3) (v := x4 + 1) (lv' := [(4, .int (x4 + 1)), (0, .ref x0), (1, .int x1), (2, .int x2)]) dX0_stand_131 rfl (by rfl) (by decide) rfl ?_
  refine xt_goto (tgt := 75) dX0_stand_134 (by decide) ?_
  exact xt_sub (lv' := [(0, .ref x0), (1, .int x1), (2, .int x2), (4, .int (x4 + 1))]) [1, 2, 3, 0] rfl H
def DX0_stand_75 (h : Nat) (x0 : Nat) (x1 : Int32) (x2 : Int32) (x4 : Int32) (M : Mem) (Q : Option Value → Mem → Prop) : Prop :=
  ok M x0 2 ∧ ∃ b2 : Nat, mR M x0 5 = some b2 ∧ ok M b2 1 ∧ E h mdJx4a65c_size_8abf5 [.ref b2] M (fun r M4 => mE M M4 → ∃ r5 : Int32, r = some (.int r5) ∧ (r5 ≤ x4 → T (h + 1) mdX0_stand 140 [(0, .ref x0), (2, .int x2), (4, .int 0)] [] M4 Q) ∧
  (¬ (r5 ≤ x4) → ∃ b6 : Nat, mR M4 x0 6 = some b6 ∧ ok M4 b6 1 ∧ E h mdJx4a65c_get_915e3 [.ref b6, .int x4] M4 (fun r M8 => mE M4 M8 → ∃ b9 : Nat, r = some (.ref b9) ∧ ok M8 b9 0 ∧ E h mdJ6_intValue_8abf5 [.ref b9] M8 (fun r M11 => mE M8 M11 → ∃ r12 : Int32, r = some (.int r12) ∧ ∃ b13 : Nat, mR M11 x0 5 = some b13 ∧ ok M11 b13 1 ∧ E h mdJx4a65c_get_915e3 [.ref b13, .int x4] M11 (fun r M15 => mE M11 M15 → ∃ b16 : Nat, r = some (.ref b16) ∧ ok M15 b16 0 ∧ E h mdJ6_intValue_8abf5 [.ref b16] M15 (fun r M18 => mE M15 M18 → ∃ r19 : Int32, r = some (.int r19) ∧ ((x1 &&& r19) = 0 → DX0_stand_128 h x0 x1 x2 x4 x0 r12 0 M18 Q) ∧
  (¬ ((x1 &&& r19) = 0) → DX0_stand_128 h x0 x1 x2 x4 x0 r12 (-1) M18 Q)))))))
set_option maxRecDepth 20000 in
set_option maxHeartbeats 2000000 in
theorem VX0_stand_75 {h : Nat} {x0 : Nat} {x1 : Int32} {x2 : Int32} {x4 : Int32} {M : Mem} {Q : Option Value → Mem → Prop} (H : DX0_stand_75 h x0 x1 x2 x4 M Q) : T (h + 1) mdX0_stand 75 [(0, .ref x0), (1, .int x1), (2, .int x2), (4, .int x4)] [] M Q := by
  unfold DX0_stand_75 at H
  refine xt_iload (j := 3) dX0_stand_75 rfl ?_
  refine xt_aload_n (j := 0) dX0_stand_77 rfl rfl ?_
  obtain ⟨ho1, H⟩ := H
  obtain ⟨b2, hb, H⟩ := H
  refine xt_getR dX0_stand_78 (flX0_29 rfl) ft_2_5 ho1.1 ho1.2 hb ?_
  obtain ⟨ho3, H⟩ := H
  refine xt_callV (h2 := h) (as := []) (st := [.int x4]) dX0_stand_81 (mlX0_103 rfl) rfl ho3.1 ⟨by rw [ho3.2]; rfl, by rw [ho3.2]; decide⟩ (by first | decide | (simp [Value.category]; done)) (Nat.le_refl _) H (fun r M4 HH hE => ?_)
  obtain ⟨r5, hr, H⟩ := HH hE
  subst hr
  have ho1 := ok_E ho1 hE
  show T _ _ _ _ [.int r5, .int x4] _ _
  refine xt_icmp_ge (tgt := 137) dX0_stand_84 (by decide) (fun hc => ?_) (fun hc => ?_)
  · have H := H.1 hc
    refine xt_iconst (v := 0) dX0_stand_137 (by decide) ?_
    refine xt_istore (lv' := [(4, .int 0), (0, .ref x0), (1, .int x1), (2, .int x2)]) dX0_stand_138 (by decide) rfl ?_
    exact xt_sub (lv' := [(0, .ref x0), (2, .int x2), (4, .int 0)]) [1, 3, 0] rfl H
  · have H := H.2 hc
    refine xt_aload_n (j := 0) dX0_stand_87 rfl rfl ?_
    refine xt_aload_n (j := 0) dX0_stand_88 rfl rfl ?_
    obtain ⟨b6, hb, H⟩ := H
    refine xt_getR dX0_stand_89 (flX0_33 rfl) ft_2_6 ho1.1 ho1.2 hb ?_
    refine xt_iload (j := 3) dX0_stand_92 rfl ?_
    obtain ⟨ho7, H⟩ := H
    refine xt_callV (h2 := h) (as := [.int x4]) (st := [.ref x0]) dX0_stand_94 (mlX0_106 rfl) rfl ho7.1 ⟨by rw [ho7.2]; rfl, by rw [ho7.2]; decide⟩ (by first | decide | (simp [Value.category]; done)) (Nat.le_refl _) H (fun r M8 HH hE => ?_)
    obtain ⟨b9, hr, H⟩ := HH hE
    subst hr
    have ho1 := ok_E ho1 hE
    show T _ _ _ _ [.ref b9, .ref x0] _ _
    obtain ⟨ho10, H⟩ := H
    refine xt_cast dX0_stand_97 (ccX0_86 rfl) ho10.1 ho10.2 ?_
    refine xt_callV (h2 := h) (as := []) (st := [.ref x0]) dX0_stand_100 (mlX0_110 rfl) rfl ho10.1 ⟨by rw [ho10.2]; rfl, by rw [ho10.2]; decide⟩ (by first | decide | (simp [Value.category]; done)) (Nat.le_refl _) H (fun r M11 HH hE => ?_)
    obtain ⟨r12, hr, H⟩ := HH hE
    subst hr
    have ho1 := ok_E ho1 hE
    show T _ _ _ _ [.int r12, .ref x0] _ _
    refine xt_iload_n (j := 1) dX0_stand_103 rfl rfl ?_
    refine xt_aload_n (j := 0) dX0_stand_104 rfl rfl ?_
    obtain ⟨b13, hb, H⟩ := H
    refine xt_getR dX0_stand_105 (flX0_29 rfl) ft_2_5 ho1.1 ho1.2 hb ?_
    refine xt_iload (j := 3) dX0_stand_108 rfl ?_
    obtain ⟨ho14, H⟩ := H
    refine xt_callV (h2 := h) (as := [.int x4]) (st := [.int x1, .int r12, .ref x0]) dX0_stand_110 (mlX0_106 rfl) rfl ho14.1 ⟨by rw [ho14.2]; rfl, by rw [ho14.2]; decide⟩ (by first | decide | (simp [Value.category]; done)) (Nat.le_refl _) H (fun r M15 HH hE => ?_)
    obtain ⟨b16, hr, H⟩ := HH hE
    subst hr
    have ho1 := ok_E ho1 hE
    show T _ _ _ _ [.ref b16, .int x1, .int r12, .ref x0] _ _
    obtain ⟨ho17, H⟩ := H
    refine xt_cast dX0_stand_113 (ccX0_86 rfl) ho17.1 ho17.2 ?_
    refine xt_callV (h2 := h) (as := []) (st := [.int x1, .int r12, .ref x0]) dX0_stand_116 (mlX0_110 rfl) rfl ho17.1 ⟨by rw [ho17.2]; rfl, by rw [ho17.2]; decide⟩ (by first | decide | (simp [Value.category]; done)) (Nat.le_refl _) H (fun r M18 HH hE => ?_)
    obtain ⟨r19, hr, H⟩ := HH hE
    subst hr
    have ho1 := ok_E ho1 hE
    show T _ _ _ _ [.int r19, .int x1, .int r12, .ref x0] _ _
    refine xt_iand dX0_stand_119 ?_
    refine xt_if_eq (tgt := 127) dX0_stand_120 (by decide) (fun hc => ?_) (fun hc => ?_)
    · have H := H.1 hc
      refine xt_iconst (v := 0) dX0_stand_127 (by decide) ?_
      exact xt_sub [0, 1, 2, 3] rfl (VX0_stand_128 H)
    · have H := H.2 hc
      refine xt_iconst (v := -1) dX0_stand_123 (by decide) ?_
      refine xt_goto (tgt := 128) dX0_stand_124 (by decide) ?_
      exact xt_sub [0, 1, 2, 3] rfl (VX0_stand_128 H)
def DX0_stand_69 (h : Nat) (x0 : Nat) (x1 : Int32) (x2 : Int32) (s0 : Nat) (s1 : Int32) (s2 : Int32) (M : Mem) (Q : Option Value → Mem → Prop) : Prop :=
  ok M s0 2 ∧ E h mdX0_tell [.ref s0, .int s1, .int s2] M (fun r M2 => mE M M2 → r = none ∧ T (h + 1) mdX0_stand 75 [(0, .ref x0), (1, .int x1), (2, .int x2), (4, .int 0)] [] M2 Q)
set_option maxRecDepth 20000 in
set_option maxHeartbeats 2000000 in
theorem VX0_stand_69 {h : Nat} {x0 : Nat} {x1 : Int32} {x2 : Int32} {s0 : Nat} {s1 : Int32} {s2 : Int32} {M : Mem} {Q : Option Value → Mem → Prop} (H : DX0_stand_69 h x0 x1 x2 s0 s1 s2 M Q) : T (h + 1) mdX0_stand 69 [(0, .ref x0), (1, .int x1), (2, .int x2)] [.int s2, .int s1, .ref s0] M Q := by
  unfold DX0_stand_69 at H
  obtain ⟨ho1, H⟩ := H
  refine xt_callV (h2 := h) (as := [.int s1, .int s2]) (st := []) dX0_stand_69 (mlX0_117 rfl) rfl ho1.1 ⟨by rw [ho1.2]; rfl, by rw [ho1.2]; decide⟩ (by first | decide | (simp [Value.category]; done)) (Nat.le_refl _) H (fun r M2 HH hE => ?_)
  obtain ⟨hr, H⟩ := HH hE
  subst hr
  show T _ _ _ _ [] _ _
  refine xt_iconst (v := 0) dX0_stand_72 (by decide) ?_
  refine xt_istore (lv' := [(4, .int 0), (0, .ref x0), (1, .int x1), (2, .int x2)]) dX0_stand_73 (by decide) rfl ?_
  exact xt_sub (lv' := [(0, .ref x0), (1, .int x1), (2, .int x2), (4, .int 0)]) [1, 2, 3, 0] rfl H
def DX0_stand_32 (h : Nat) (x0 : Nat) (x1 : Int32) (x2 : Int32) (x3 : Int32) (M : Mem) (Q : Option Value → Mem → Prop) : Prop :=
  ok M x0 2 ∧ ∃ b2 : Nat, mR M x0 2 = some b2 ∧ E h mdJ7_fill_53178 [.ref b2, .int 0] M (fun r M3 => mE M M3 → r = none ∧ ∃ b4 : Nat, mR M3 x0 3 = some b4 ∧ E h mdJ7_fill_53178 [.ref b4, .int 0] M3 (fun r M5 => mE M3 M5 → r = none ∧ ∃ b6 : Nat, mR M5 x0 3 = some b6 ∧ ok M5 b6 21 ∧ vp_in 0 (mL M5 b6) ∧ ∀ M8 : Mem, M8 = wAI M5 b6 (0 : Int32).toNatClampNeg (-1) →
  (x3 = 0 → DX0_stand_69 h x0 x1 x2 x0 (mI M8 x0 15) 0 M8 Q) ∧
  (¬ (x3 = 0) → DX0_stand_69 h x0 x1 x2 x0 (mI M8 x0 15) (-1) M8 Q)))
set_option maxRecDepth 20000 in
set_option maxHeartbeats 2000000 in
theorem VX0_stand_32 {h : Nat} {x0 : Nat} {x1 : Int32} {x2 : Int32} {x3 : Int32} {M : Mem} {Q : Option Value → Mem → Prop} (H : DX0_stand_32 h x0 x1 x2 x3 M Q) : T (h + 1) mdX0_stand 32 [(0, .ref x0), (1, .int x1), (2, .int x2), (3, .int x3)] [] M Q := by
  unfold DX0_stand_32 at H
  refine xt_aload_n (j := 0) dX0_stand_32 rfl rfl ?_
  obtain ⟨ho1, H⟩ := H
  obtain ⟨b2, hb, H⟩ := H
  refine xt_getR dX0_stand_33 (flX0_16 rfl) ft_2_2 ho1.1 ho1.2 hb ?_
  refine xt_iconst (v := 0) dX0_stand_36 (by decide) ?_
  refine xt_callS (h2 := h) (as := [.ref b2, .int 0]) (st := []) dX0_stand_37 (mlX0_113 rfl) rfl (by first | decide | (simp [Value.category]; done)) (Nat.le_refl _) H (fun r M3 HH hE => ?_)
  obtain ⟨hr, H⟩ := HH hE
  subst hr
  have ho1 := ok_E ho1 hE
  show T _ _ _ _ [] _ _
  refine xt_aload_n (j := 0) dX0_stand_40 rfl rfl ?_
  obtain ⟨b4, hb, H⟩ := H
  refine xt_getR dX0_stand_41 (flX0_19 rfl) ft_2_3 ho1.1 ho1.2 hb ?_
  refine xt_iconst (v := 0) dX0_stand_44 (by decide) ?_
  refine xt_callS (h2 := h) (as := [.ref b4, .int 0]) (st := []) dX0_stand_45 (mlX0_113 rfl) rfl (by first | decide | (simp [Value.category]; done)) (Nat.le_refl _) H (fun r M5 HH hE => ?_)
  obtain ⟨hr, H⟩ := HH hE
  subst hr
  have ho1 := ok_E ho1 hE
  show T _ _ _ _ [] _ _
  refine xt_aload_n (j := 0) dX0_stand_48 rfl rfl ?_
  obtain ⟨b6, hb, H⟩ := H
  refine xt_getR dX0_stand_49 (flX0_19 rfl) ft_2_3 ho1.1 ho1.2 hb ?_
  refine xt_iconst (v := 0) dX0_stand_52 (by decide) ?_
  refine xt_iconst (v := -1) dX0_stand_53 (by decide) ?_
  obtain ⟨ho7, H⟩ := H
  obtain ⟨hi, H⟩ := H
  obtain ⟨M8, eM8⟩ : ∃ z, z = wAI M5 b6 (0 : Int32).toNatClampNeg (-1) := ⟨_, rfl⟩
  have H := H _ eM8
  refine xt_iast dX0_stand_54 ho7.1 ho7.2 hi ?_
  have ho1 : ok M8 x0 2 := by rw [eM8]; exact ho1
  rw [← eM8]
  refine xt_aload_n (j := 0) dX0_stand_55 rfl rfl ?_
  refine xt_aload_n (j := 0) dX0_stand_56 rfl rfl ?_
  refine xt_getI dX0_stand_57 (flX0_65 rfl) ft_2_15 ho1.1 ho1.2 ?_
  refine xt_iload_n (j := 3) dX0_stand_60 rfl rfl ?_
  refine xt_if_eq (tgt := 68) dX0_stand_61 (by decide) (fun hc => ?_) (fun hc => ?_)
  · have H := H.1 hc
    refine xt_iconst (v := 0) dX0_stand_68 (by decide) ?_
    exact xt_sub [0, 1, 2] rfl (VX0_stand_69 H)
  · have H := H.2 hc
    refine xt_iconst (v := -1) dX0_stand_64 (by decide) ?_
    refine xt_goto (tgt := 69) dX0_stand_65 (by decide) ?_
    exact xt_sub [0, 1, 2] rfl (VX0_stand_69 H)
def DX0_stand_0 (h : Nat) (x0 : Nat) (x1 : Int32) (x2 : Int32) (x3 : Int32) (M : Mem) (Q : Option Value → Mem → Prop) : Prop :=
  ok M x0 2 ∧ ∃ b2 : Nat, mR M x0 2 = some b2 ∧ ok M b2 21 ∧ ((mI M x0 4) ≤ (Int32.ofNat (mL M b2)) → DX0_stand_32 h x0 x1 x2 x3 M Q) ∧
  (¬ ((mI M x0 4) ≤ (Int32.ofNat (mL M b2))) → ¬ (mI M x0 4 : Int32) < 0 ∧ ((mI M x0 4 : Int32).toNatClampNeg ≤ 100000000) ∧ ∀ (q5 : Nat) (M4 : Mem), q5 = mN M → M4 = nwA M 21 ((mI M x0 4 : Int32).toNatClampNeg) →
  ∀ M6 : Mem, M6 = wR M4 x0 2 (some q5) →
  ¬ (mI M6 x0 4 : Int32) < 0 ∧ ((mI M6 x0 4 : Int32).toNatClampNeg ≤ 100000000) ∧ ∀ (q8 : Nat) (M7 : Mem), q8 = mN M6 → M7 = nwA M6 21 ((mI M6 x0 4 : Int32).toNatClampNeg) →
  ∀ M9 : Mem, M9 = wR M7 x0 3 (some q8) →
  DX0_stand_32 h x0 x1 x2 x3 M9 Q)
set_option maxRecDepth 20000 in
set_option maxHeartbeats 2000000 in
theorem VX0_stand_0 {h : Nat} {x0 : Nat} {x1 : Int32} {x2 : Int32} {x3 : Int32} {M : Mem} {Q : Option Value → Mem → Prop} (H : DX0_stand_0 h x0 x1 x2 x3 M Q) : T (h + 1) mdX0_stand 0 [(0, .ref x0), (1, .int x1), (2, .int x2), (3, .int x3)] [] M Q := by
  unfold DX0_stand_0 at H
  refine xt_aload_n (j := 0) dX0_stand_0 rfl rfl ?_
  obtain ⟨ho1, H⟩ := H
  obtain ⟨b2, hb, H⟩ := H
  refine xt_getR dX0_stand_1 (flX0_16 rfl) ft_2_2 ho1.1 ho1.2 hb ?_
  obtain ⟨ho3, H⟩ := H
  refine xt_alen dX0_stand_4 ho3.1 (Or.inr (Or.inl ho3.2)) ?_
  refine xt_aload_n (j := 0) dX0_stand_5 rfl rfl ?_
  refine xt_getI dX0_stand_6 (flX0_22 rfl) ft_2_4 ho1.1 ho1.2 ?_
  refine xt_icmp_ge (tgt := 32) dX0_stand_9 (by decide) (fun hc => ?_) (fun hc => ?_)
  · have H := H.1 hc
    exact xt_sub [0, 1, 2, 3] rfl (VX0_stand_32 H)
  · have H := H.2 hc
    refine xt_aload_n (j := 0) dX0_stand_12 rfl rfl ?_
    refine xt_aload_n (j := 0) dX0_stand_13 rfl rfl ?_
    refine xt_getI dX0_stand_14 (flX0_22 rfl) ft_2_4 ho1.1 ho1.2 ?_
    obtain ⟨hn, hy, H⟩ := H
    obtain ⟨M4, eM4⟩ : ∃ z, z = nwA M 21 ((mI M x0 4 : Int32).toNatClampNeg) := ⟨_, rfl⟩
    obtain ⟨q5, eq5⟩ : ∃ z, z = mN M := ⟨_, rfl⟩
    have H := H _ _ eq5 eM4
    refine xt_newI dX0_stand_17 ac_I hn rfl hy ?_
    have ho1 : ok M4 x0 2 := by rw [eM4]; exact ok_nwA ho1
    rw [← eM4, ← eq5]
    obtain ⟨M6, eM6⟩ : ∃ z, z = wR M4 x0 2 (some q5) := ⟨_, rfl⟩
    have H := H _ eM6
    refine xt_putR dX0_stand_19 (flX0_16 rfl) ft_2_2 rfl ho1.1 ho1.2 ?_
    have ho1 : ok M6 x0 2 := by rw [eM6]; exact ho1
    rw [← eM6]
    refine xt_aload_n (j := 0) dX0_stand_22 rfl rfl ?_
    refine xt_aload_n (j := 0) dX0_stand_23 rfl rfl ?_
    refine xt_getI dX0_stand_24 (flX0_22 rfl) ft_2_4 ho1.1 ho1.2 ?_
    obtain ⟨hn, hy, H⟩ := H
    obtain ⟨M7, eM7⟩ : ∃ z, z = nwA M6 21 ((mI M6 x0 4 : Int32).toNatClampNeg) := ⟨_, rfl⟩
    obtain ⟨q8, eq8⟩ : ∃ z, z = mN M6 := ⟨_, rfl⟩
    have H := H _ _ eq8 eM7
    refine xt_newI dX0_stand_27 ac_I hn rfl hy ?_
    have ho1 : ok M7 x0 2 := by rw [eM7]; exact ok_nwA ho1
    rw [← eM7, ← eq8]
    obtain ⟨M9, eM9⟩ : ∃ z, z = wR M7 x0 3 (some q8) := ⟨_, rfl⟩
    have H := H _ eM9
    refine xt_putR dX0_stand_29 (flX0_19 rfl) ft_2_3 rfl ho1.1 ho1.2 ?_
    have ho1 : ok M9 x0 2 := by rw [eM9]; exact ho1
    rw [← eM9]
    exact xt_sub [0, 1, 2, 3] rfl (VX0_stand_32 H)
theorem KX0_stand {h : Nat} {x0 : Nat} {x1 : Int32} {x2 : Int32} {x3 : Int32} {M : Mem} {Q : Option Value → Mem → Prop} (H : DX0_stand_0 h x0 x1 x2 x3 M Q) : E (h + 1) mdX0_stand [.ref x0, .int x1, .int x2, .int x3] M Q := E.of (by decide) (Nat.le_of_ble_eq_true rfl) (fun _ _ _ => trivial) (VX0_stand_0 H)
def DX0_tellInput_0 (h : Nat) (x0 : Nat) (x1 : Int32) (x2 : Int32) (M : Mem) (Q : Option Value → Mem → Prop) : Prop :=
  ok M x0 2 ∧ ∃ b2 : Nat, mR M x0 13 = some b2 ∧ ok M b2 21 ∧ vp_in x1 (mL M b2) ∧ E h mdX0_tell [.ref x0, .int (mAI M b2 (x1 : Int32).toNatClampNeg), .int x2] M (fun r M4 => mE M M4 → r = none ∧ Q none M4)
set_option maxRecDepth 20000 in
set_option maxHeartbeats 2000000 in
theorem VX0_tellInput_0 {h : Nat} {x0 : Nat} {x1 : Int32} {x2 : Int32} {M : Mem} {Q : Option Value → Mem → Prop} (H : DX0_tellInput_0 h x0 x1 x2 M Q) : T (h + 1) mdX0_tellInput 0 [(0, .ref x0), (1, .int x1), (2, .int x2)] [] M Q := by
  unfold DX0_tellInput_0 at H
  refine xt_aload_n (j := 0) dX0_tellInput_0 rfl rfl ?_
  refine xt_aload_n (j := 0) dX0_tellInput_1 rfl rfl ?_
  obtain ⟨ho1, H⟩ := H
  obtain ⟨b2, hb, H⟩ := H
  refine xt_getR dX0_tellInput_2 (flX0_55 rfl) ft_2_13 ho1.1 ho1.2 hb ?_
  refine xt_iload_n (j := 1) dX0_tellInput_5 rfl rfl ?_
  obtain ⟨ho3, H⟩ := H
  obtain ⟨hi, H⟩ := H
  refine xt_iald dX0_tellInput_6 ho3.1 ho3.2 hi ?_
  refine xt_iload_n (j := 2) dX0_tellInput_7 rfl rfl ?_
  refine xt_callV (h2 := h) (as := [.int (mAI M b2 (x1 : Int32).toNatClampNeg), .int x2]) (st := []) dX0_tellInput_8 (mlX0_117 rfl) rfl ho1.1 ⟨by rw [ho1.2]; rfl, by rw [ho1.2]; decide⟩ (by first | decide | (simp [Value.category]; done)) (Nat.le_refl _) H (fun r M4 HH hE => ?_)
  obtain ⟨hr, H⟩ := HH hE
  subst hr
  have ho1 := ok_E ho1 hE
  show T _ _ _ _ [] _ _
  exact xt_return dX0_tellInput_11 rfl H
theorem KX0_tellInput {h : Nat} {x0 : Nat} {x1 : Int32} {x2 : Int32} {M : Mem} {Q : Option Value → Mem → Prop} (H : DX0_tellInput_0 h x0 x1 x2 M Q) : E (h + 1) mdX0_tellInput [.ref x0, .int x1, .int x2] M Q := E.of (by decide) (Nat.le_of_ble_eq_true rfl) (fun _ _ _ => trivial) (VX0_tellInput_0 H)
def DX0_tellIf_30 (h : Nat) (M : Mem) (Q : Option Value → Mem → Prop) : Prop :=
  Q none M
set_option maxRecDepth 20000 in
set_option maxHeartbeats 2000000 in
theorem VX0_tellIf_30 {h : Nat} {M : Mem} {Q : Option Value → Mem → Prop} (H : DX0_tellIf_30 h  M Q) : T (h + 1) mdX0_tellIf 30 [] [] M Q := by
  unfold DX0_tellIf_30 at H
  exact xt_return dX0_tellIf_30 rfl H
def DX0_tellIf_0 (h : Nat) (x0 : Nat) (x1 : Int32) (x2 : Int32) (M : Mem) (Q : Option Value → Mem → Prop) : Prop :=
  ok M x0 2 ∧ ∃ b2 : Nat, mR M x0 7 = some b2 ∧ ok M b2 1 ∧ E h mdJx4a65c_size_8abf5 [.ref b2] M (fun r M4 => mE M M4 → ∃ r5 : Int32, r = some (.int r5) ∧ (r5 ≤ x1 → DX0_tellIf_30 h  M4 Q) ∧
  (¬ (r5 ≤ x1) → ∃ b6 : Nat, mR M4 x0 7 = some b6 ∧ ok M4 b6 1 ∧ E h mdJx4a65c_get_915e3 [.ref b6, .int x1] M4 (fun r M8 => mE M4 M8 → ∃ b9 : Nat, r = some (.ref b9) ∧ ok M8 b9 0 ∧ E h mdJ6_intValue_8abf5 [.ref b9] M8 (fun r M11 => mE M8 M11 → ∃ r12 : Int32, r = some (.int r12) ∧ E h mdX0_tell [.ref x0, .int r12, .int x2] M11 (fun r M13 => mE M11 M13 → r = none ∧ DX0_tellIf_30 h  M13 Q)))))
set_option maxRecDepth 20000 in
set_option maxHeartbeats 2000000 in
theorem VX0_tellIf_0 {h : Nat} {x0 : Nat} {x1 : Int32} {x2 : Int32} {M : Mem} {Q : Option Value → Mem → Prop} (H : DX0_tellIf_0 h x0 x1 x2 M Q) : T (h + 1) mdX0_tellIf 0 [(0, .ref x0), (1, .int x1), (2, .int x2)] [] M Q := by
  unfold DX0_tellIf_0 at H
  refine xt_iload_n (j := 1) dX0_tellIf_0 rfl rfl ?_
  refine xt_aload_n (j := 0) dX0_tellIf_1 rfl rfl ?_
  obtain ⟨ho1, H⟩ := H
  obtain ⟨b2, hb, H⟩ := H
  refine xt_getR dX0_tellIf_2 (flX0_36 rfl) ft_2_7 ho1.1 ho1.2 hb ?_
  obtain ⟨ho3, H⟩ := H
  refine xt_callV (h2 := h) (as := []) (st := [.int x1]) dX0_tellIf_5 (mlX0_103 rfl) rfl ho3.1 ⟨by rw [ho3.2]; rfl, by rw [ho3.2]; decide⟩ (by first | decide | (simp [Value.category]; done)) (Nat.le_refl _) H (fun r M4 HH hE => ?_)
  obtain ⟨r5, hr, H⟩ := HH hE
  subst hr
  have ho1 := ok_E ho1 hE
  show T _ _ _ _ [.int r5, .int x1] _ _
  refine xt_icmp_ge (tgt := 30) dX0_tellIf_8 (by decide) (fun hc => ?_) (fun hc => ?_)
  · have H := H.1 hc
    exact xt_sub [] rfl (VX0_tellIf_30 H)
  · have H := H.2 hc
    refine xt_aload_n (j := 0) dX0_tellIf_11 rfl rfl ?_
    refine xt_aload_n (j := 0) dX0_tellIf_12 rfl rfl ?_
    obtain ⟨b6, hb, H⟩ := H
    refine xt_getR dX0_tellIf_13 (flX0_36 rfl) ft_2_7 ho1.1 ho1.2 hb ?_
    refine xt_iload_n (j := 1) dX0_tellIf_16 rfl rfl ?_
    obtain ⟨ho7, H⟩ := H
    refine xt_callV (h2 := h) (as := [.int x1]) (st := [.ref x0]) dX0_tellIf_17 (mlX0_106 rfl) rfl ho7.1 ⟨by rw [ho7.2]; rfl, by rw [ho7.2]; decide⟩ (by first | decide | (simp [Value.category]; done)) (Nat.le_refl _) H (fun r M8 HH hE => ?_)
    obtain ⟨b9, hr, H⟩ := HH hE
    subst hr
    have ho1 := ok_E ho1 hE
    show T _ _ _ _ [.ref b9, .ref x0] _ _
    obtain ⟨ho10, H⟩ := H
    refine xt_cast dX0_tellIf_20 (ccX0_86 rfl) ho10.1 ho10.2 ?_
    refine xt_callV (h2 := h) (as := []) (st := [.ref x0]) dX0_tellIf_23 (mlX0_110 rfl) rfl ho10.1 ⟨by rw [ho10.2]; rfl, by rw [ho10.2]; decide⟩ (by first | decide | (simp [Value.category]; done)) (Nat.le_refl _) H (fun r M11 HH hE => ?_)
    obtain ⟨r12, hr, H⟩ := HH hE
    subst hr
    have ho1 := ok_E ho1 hE
    show T _ _ _ _ [.int r12, .ref x0] _ _
    refine xt_iload_n (j := 2) dX0_tellIf_26 rfl rfl ?_
    refine xt_callV (h2 := h) (as := [.int r12, .int x2]) (st := []) dX0_tellIf_27 (mlX0_117 rfl) rfl ho1.1 ⟨by rw [ho1.2]; rfl, by rw [ho1.2]; decide⟩ (by first | decide | (simp [Value.category]; done)) (Nat.le_refl _) H (fun r M13 HH hE => ?_)
    obtain ⟨hr, H⟩ := HH hE
    subst hr
    have ho1 := ok_E ho1 hE
    show T _ _ _ _ [] _ _
    exact xt_sub [] rfl (VX0_tellIf_30 H)
theorem KX0_tellIf {h : Nat} {x0 : Nat} {x1 : Int32} {x2 : Int32} {M : Mem} {Q : Option Value → Mem → Prop} (H : DX0_tellIf_0 h x0 x1 x2 M Q) : E (h + 1) mdX0_tellIf [.ref x0, .int x1, .int x2] M Q := E.of (by decide) (Nat.le_of_ble_eq_true rfl) (fun _ _ _ => trivial) (VX0_tellIf_0 H)
def DX0_tell_0 (h : Nat) (x0 : Nat) (x1 : Int32) (x2 : Int32) (M : Mem) (Q : Option Value → Mem → Prop) : Prop :=
  ok M x0 2 ∧ ∃ b2 : Nat, mR M x0 2 = some b2 ∧ ok M b2 21 ∧ vp_in (((x1 : Int32).toUInt32 >>> ((1 : Int32).toUInt32 &&& Int32.toUInt32 31)).toInt32) (mL M b2) ∧ ∀ M4 : Mem, M4 = wAI M b2 (((x1 : Int32).toUInt32 >>> ((1 : Int32).toUInt32 &&& Int32.toUInt32 31)).toInt32 : Int32).toNatClampNeg x2 →
  ∃ b5 : Nat, mR M4 x0 3 = some b5 ∧ ok M4 b5 21 ∧ vp_in (((x1 : Int32).toUInt32 >>> ((1 : Int32).toUInt32 &&& Int32.toUInt32 31)).toInt32) (mL M4 b5) ∧ ∀ M7 : Mem, M7 = wAI M4 b5 (((x1 : Int32).toUInt32 >>> ((1 : Int32).toUInt32 &&& Int32.toUInt32 31)).toInt32 : Int32).toNatClampNeg (x2 ^^^ (-1)) →
  Q none M7
set_option maxRecDepth 20000 in
set_option maxHeartbeats 2000000 in
theorem VX0_tell_0 {h : Nat} {x0 : Nat} {x1 : Int32} {x2 : Int32} {M : Mem} {Q : Option Value → Mem → Prop} (H : DX0_tell_0 h x0 x1 x2 M Q) : T (h + 1) mdX0_tell 0 [(0, .ref x0), (1, .int x1), (2, .int x2)] [] M Q := by
  unfold DX0_tell_0 at H
  refine xt_aload_n (j := 0) dX0_tell_0 rfl rfl ?_
  obtain ⟨ho1, H⟩ := H
  obtain ⟨b2, hb, H⟩ := H
  refine xt_getR dX0_tell_1 (flX0_16 rfl) ft_2_2 ho1.1 ho1.2 hb ?_
  refine xt_iload_n (j := 1) dX0_tell_4 rfl rfl ?_
  refine xt_iconst (v := 1) dX0_tell_5 (by decide) ?_
  refine xt_iushr dX0_tell_6 ?_
  refine xt_iload_n (j := 2) dX0_tell_7 rfl rfl ?_
  obtain ⟨ho3, H⟩ := H
  obtain ⟨hi, H⟩ := H
  obtain ⟨M4, eM4⟩ : ∃ z, z = wAI M b2 (((x1 : Int32).toUInt32 >>> ((1 : Int32).toUInt32 &&& Int32.toUInt32 31)).toInt32 : Int32).toNatClampNeg x2 := ⟨_, rfl⟩
  have H := H _ eM4
  refine xt_iast dX0_tell_8 ho3.1 ho3.2 hi ?_
  have ho1 : ok M4 x0 2 := by rw [eM4]; exact ho1
  rw [← eM4]
  refine xt_aload_n (j := 0) dX0_tell_9 rfl rfl ?_
  obtain ⟨b5, hb, H⟩ := H
  refine xt_getR dX0_tell_10 (flX0_19 rfl) ft_2_3 ho1.1 ho1.2 hb ?_
  refine xt_iload_n (j := 1) dX0_tell_13 rfl rfl ?_
  refine xt_iconst (v := 1) dX0_tell_14 (by decide) ?_
  refine xt_iushr dX0_tell_15 ?_
  refine xt_iload_n (j := 2) dX0_tell_16 rfl rfl ?_
  refine xt_iconst (v := -1) dX0_tell_17 (by decide) ?_
  refine xt_ixor dX0_tell_18 ?_
  obtain ⟨ho6, H⟩ := H
  obtain ⟨hi, H⟩ := H
  obtain ⟨M7, eM7⟩ : ∃ z, z = wAI M4 b5 (((x1 : Int32).toUInt32 >>> ((1 : Int32).toUInt32 &&& Int32.toUInt32 31)).toInt32 : Int32).toNatClampNeg (x2 ^^^ (-1)) := ⟨_, rfl⟩
  have H := H _ eM7
  refine xt_iast dX0_tell_19 ho6.1 ho6.2 hi ?_
  have ho1 : ok M7 x0 2 := by rw [eM7]; exact ho1
  rw [← eM7]
  exact xt_return dX0_tell_20 rfl H
theorem KX0_tell {h : Nat} {x0 : Nat} {x1 : Int32} {x2 : Int32} {M : Mem} {Q : Option Value → Mem → Prop} (H : DX0_tell_0 h x0 x1 x2 M Q) : E (h + 1) mdX0_tell [.ref x0, .int x1, .int x2] M Q := E.of (by decide) (Nat.le_of_ble_eq_true rfl) (fun _ _ _ => trivial) (VX0_tell_0 H)
def DX0_settle_25 (h : Nat) (M : Mem) (Q : Option Value → Mem → Prop) : Prop :=
  Q none M
set_option maxRecDepth 20000 in
set_option maxHeartbeats 2000000 in
theorem VX0_settle_25 {h : Nat} {M : Mem} {Q : Option Value → Mem → Prop} (H : DX0_settle_25 h  M Q) : T (h + 1) mdX0_settle 25 [] [] M Q := by
  unfold DX0_settle_25 at H
  exact xt_return dX0_settle_25 rfl H
def DX0_settle_4 (h : Nat) (x0 : Nat) (x1 : Int32) (x2 : Int32) (M : Mem) (Q : Option Value → Mem → Prop) : Prop :=
  (1000000 ≤ x2 → DX0_settle_25 h  M Q) ∧
  (¬ (1000000 ≤ x2) → (x1 = 0 → DX0_settle_25 h  M Q) ∧
  (¬ (x1 = 0) → ok M x0 2 ∧ E h mdX0_sweep [.ref x0] M (fun r M2 => mE M M2 → ∃ r3 : Int32, r = some (.int r3) ∧ T (h + 1) mdX0_settle 4 [(0, .ref x0), (1, .int r3), (2, .int (x2 + 1))] [] M2 Q)))
set_option maxRecDepth 20000 in
set_option maxHeartbeats 2000000 in
theorem VX0_settle_4 {h : Nat} {x0 : Nat} {x1 : Int32} {x2 : Int32} {M : Mem} {Q : Option Value → Mem → Prop} (H : DX0_settle_4 h x0 x1 x2 M Q) : T (h + 1) mdX0_settle 4 [(0, .ref x0), (1, .int x1), (2, .int x2)] [] M Q := by
  unfold DX0_settle_4 at H
  refine xt_iload_n (j := 2) dX0_settle_4 rfl rfl ?_
  refine xt_ldc (v := 1000000) dX0_settle_5 (ctX0_121 rfl) ?_
  refine xt_icmp_ge (tgt := 25) dX0_settle_7 (by decide) (fun hc => ?_) (fun hc => ?_)
  · have H := H.1 hc
    exact xt_sub [] rfl (VX0_settle_25 H)
  · have H := H.2 hc
    refine xt_iload_n (j := 1) dX0_settle_10 rfl rfl ?_
    refine xt_if_eq (tgt := 25) dX0_settle_11 (by decide) (fun hc => ?_) (fun hc => ?_)
    · have H := H.1 hc
      exact xt_sub [] rfl (VX0_settle_25 H)
    · have H := H.2 hc
      refine xt_aload_n (j := 0) dX0_settle_14 rfl rfl ?_
      obtain ⟨ho1, H⟩ := H
      refine xt_callV (h2 := h) (as := []) (st := []) dX0_settle_15 (mlX0_122 rfl) rfl ho1.1 ⟨by rw [ho1.2]; rfl, by rw [ho1.2]; decide⟩ (by first | decide | (simp [Value.category]; done)) (Nat.le_refl _) H (fun r M2 HH hE => ?_)
      obtain ⟨r3, hr, H⟩ := HH hE
      subst hr
      have ho1 := ok_E ho1 hE
      show T _ _ _ _ [.int r3] _ _
      refine xt_istore_n (lv' := [(1, .int r3), (0, .ref x0), (2, .int x2)]) dX0_settle_18 rfl (by decide) rfl ?_
      refine xt_iinc (j := 2) (v := x2 + 1) (lv' := [(2, .int (x2 + 1)), (1, .int r3), (0, .ref x0)]) dX0_settle_19 rfl (by rfl) (by decide) rfl ?_
      refine xt_goto (tgt := 4) dX0_settle_22 (by decide) ?_
      exact xt_sub (lv' := [(0, .ref x0), (1, .int r3), (2, .int (x2 + 1))]) [2, 1, 0] rfl H
def DX0_settle_0 (h : Nat) (x0 : Nat) (M : Mem) (Q : Option Value → Mem → Prop) : Prop :=
  T (h + 1) mdX0_settle 4 [(0, .ref x0), (1, .int 1), (2, .int 0)] [] M Q
set_option maxRecDepth 20000 in
set_option maxHeartbeats 2000000 in
theorem VX0_settle_0 {h : Nat} {x0 : Nat} {M : Mem} {Q : Option Value → Mem → Prop} (H : DX0_settle_0 h x0 M Q) : T (h + 1) mdX0_settle 0 [(0, .ref x0)] [] M Q := by
  unfold DX0_settle_0 at H
  refine xt_iconst (v := 1) dX0_settle_0 (by decide) ?_
  refine xt_istore_n (lv' := [(1, .int 1), (0, .ref x0)]) dX0_settle_1 rfl (by decide) rfl ?_
  refine xt_iconst (v := 0) dX0_settle_2 (by decide) ?_
  refine xt_istore_n (lv' := [(2, .int 0), (1, .int 1), (0, .ref x0)]) dX0_settle_3 rfl (by decide) rfl ?_
  exact xt_sub (lv' := [(0, .ref x0), (1, .int 1), (2, .int 0)]) [2, 1, 0] rfl H
theorem KX0_settle {h : Nat} {x0 : Nat} {M : Mem} {Q : Option Value → Mem → Prop} (H : DX0_settle_0 h x0 M Q) : E (h + 1) mdX0_settle [.ref x0] M Q := E.of (by decide) (Nat.le_of_ble_eq_true rfl) (fun _ _ _ => trivial) (VX0_settle_0 H)
def DX0_sweep_101 (h : Nat) (x0 : Nat) (x1 : Int32) (x2 : Int32) (M : Mem) (Q : Option Value → Mem → Prop) : Prop :=
  T (h + 1) mdX0_sweep 4 [(0, .ref x0), (1, .int x1), (2, .int (x2 + 1))] [] M Q
set_option maxRecDepth 20000 in
set_option maxHeartbeats 2000000 in
theorem VX0_sweep_101 {h : Nat} {x0 : Nat} {x1 : Int32} {x2 : Int32} {M : Mem} {Q : Option Value → Mem → Prop} (H : DX0_sweep_101 h x0 x1 x2 M Q) : T (h + 1) mdX0_sweep 101 [(0, .ref x0), (1, .int x1), (2, .int x2)] [] M Q := by
  unfold DX0_sweep_101 at H
  refine xt_iinc (j := 2) (v := x2 + 1) (lv' := [(2, .int (x2 + 1)), (0, .ref x0), (1, .int x1)]) dX0_sweep_101 rfl (by rfl) (by decide) rfl ?_
  refine xt_goto (tgt := 4) dX0_sweep_104 (by decide) ?_
  exact xt_sub (lv' := [(0, .ref x0), (1, .int x1), (2, .int (x2 + 1))]) [1, 2, 0] rfl H
def DX0_sweep_84 (h : Nat) (x0 : Nat) (x2 : Int32) (x3 : Int32) (x4 : Int32) (M : Mem) (Q : Option Value → Mem → Prop) : Prop :=
  ok M x0 2 ∧ ∃ b2 : Nat, mR M x0 2 = some b2 ∧ ok M b2 21 ∧ vp_in x2 (mL M b2) ∧ ∀ M4 : Mem, M4 = wAI M b2 (x2 : Int32).toNatClampNeg x3 →
  ∃ b5 : Nat, mR M4 x0 3 = some b5 ∧ ok M4 b5 21 ∧ vp_in x2 (mL M4 b5) ∧ ∀ M7 : Mem, M7 = wAI M4 b5 (x2 : Int32).toNatClampNeg x4 →
  DX0_sweep_101 h x0 1 x2 M7 Q
set_option maxRecDepth 20000 in
set_option maxHeartbeats 2000000 in
theorem VX0_sweep_84 {h : Nat} {x0 : Nat} {x2 : Int32} {x3 : Int32} {x4 : Int32} {M : Mem} {Q : Option Value → Mem → Prop} (H : DX0_sweep_84 h x0 x2 x3 x4 M Q) : T (h + 1) mdX0_sweep 84 [(0, .ref x0), (2, .int x2), (3, .int x3), (4, .int x4)] [] M Q := by
  unfold DX0_sweep_84 at H
  refine xt_aload_n (j := 0) dX0_sweep_84 rfl rfl ?_
  obtain ⟨ho1, H⟩ := H
  obtain ⟨b2, hb, H⟩ := H
  refine xt_getR dX0_sweep_85 (flX0_16 rfl) ft_2_2 ho1.1 ho1.2 hb ?_
  refine xt_iload_n (j := 1) dX0_sweep_88 rfl rfl ?_
  refine xt_iload_n (j := 2) dX0_sweep_89 rfl rfl ?_
  obtain ⟨ho3, H⟩ := H
  obtain ⟨hi, H⟩ := H
  obtain ⟨M4, eM4⟩ : ∃ z, z = wAI M b2 (x2 : Int32).toNatClampNeg x3 := ⟨_, rfl⟩
  have H := H _ eM4
  refine xt_iast dX0_sweep_90 ho3.1 ho3.2 hi ?_
  have ho1 : ok M4 x0 2 := by rw [eM4]; exact ho1
  rw [← eM4]
  refine xt_aload_n (j := 0) dX0_sweep_91 rfl rfl ?_
  obtain ⟨b5, hb, H⟩ := H
  refine xt_getR dX0_sweep_92 (flX0_19 rfl) ft_2_3 ho1.1 ho1.2 hb ?_
  refine xt_iload_n (j := 1) dX0_sweep_95 rfl rfl ?_
  refine xt_iload (j := 3) dX0_sweep_96 rfl ?_
  obtain ⟨ho6, H⟩ := H
  obtain ⟨hi, H⟩ := H
  obtain ⟨M7, eM7⟩ : ∃ z, z = wAI M4 b5 (x2 : Int32).toNatClampNeg x4 := ⟨_, rfl⟩
  have H := H _ eM7
  refine xt_iast dX0_sweep_98 ho6.1 ho6.2 hi ?_
  have ho1 : ok M7 x0 2 := by rw [eM7]; exact ho1
  rw [← eM7]
  refine xt_iconst (v := 1) dX0_sweep_99 (by decide) ?_
  refine xt_istore_n (lv' := [(1, .int 1), (0, .ref x0), (2, .int x2), (3, .int x3), (4, .int x4)]) dX0_sweep_100 rfl (by decide) rfl ?_
  exact xt_sub [1, 0, 2] rfl (VX0_sweep_101 H)
def DX0_sweep_4 (h : Nat) (x0 : Nat) (x1 : Int32) (x2 : Int32) (M : Mem) (Q : Option Value → Mem → Prop) : Prop :=
  ok M x0 2 ∧ ((mI M x0 4) ≤ x2 → (x1 = 0 ∨ x1 = 1) ∧ Q (some (.int x1)) M) ∧
  (¬ ((mI M x0 4) ≤ x2) → ∃ b2 : Nat, mR M x0 0 = some b2 ∧ ok M b2 21 ∧ vp_in x2 (mL M b2) ∧ E h mdX0_lanesOf [.ref x0, .int (mAI M b2 (x2 : Int32).toNatClampNeg)] M (fun r M4 => mE M M4 → ∃ r5 : Int32, r = some (.int r5) ∧ ∃ b6 : Nat, mR M4 x0 1 = some b6 ∧ ok M4 b6 21 ∧ vp_in x2 (mL M4 b6) ∧ E h mdX0_lanesOf [.ref x0, .int (mAI M4 b6 (x2 : Int32).toNatClampNeg)] M4 (fun r M8 => mE M4 M8 → ∃ r9 : Int32, r = some (.int r9) ∧ ∃ b10 : Nat, mR M8 x0 0 = some b10 ∧ ok M8 b10 21 ∧ vp_in x2 (mL M8 b10) ∧ E h mdX0_not [.int (mAI M8 b10 (x2 : Int32).toNatClampNeg)] M8 (fun r M12 => mE M8 M12 → ∃ r13 : Int32, r = some (.int r13) ∧ E h mdX0_lanesOf [.ref x0, .int r13] M12 (fun r M14 => mE M12 M14 → ∃ r15 : Int32, r = some (.int r15) ∧ ∃ b16 : Nat, mR M14 x0 1 = some b16 ∧ ok M14 b16 21 ∧ vp_in x2 (mL M14 b16) ∧ E h mdX0_not [.int (mAI M14 b16 (x2 : Int32).toNatClampNeg)] M14 (fun r M18 => mE M14 M18 → ∃ r19 : Int32, r = some (.int r19) ∧ E h mdX0_lanesOf [.ref x0, .int r19] M18 (fun r M20 => mE M18 M20 → ∃ r21 : Int32, r = some (.int r21) ∧ ∃ b22 : Nat, mR M20 x0 2 = some b22 ∧ ok M20 b22 21 ∧ vp_in x2 (mL M20 b22) ∧ (¬ (r5 &&& r9) = (mAI M20 b22 (x2 : Int32).toNatClampNeg) → DX0_sweep_84 h x0 x2 (r5 &&& r9) (r15 ||| r21) M20 Q) ∧
  ((r5 &&& r9) = (mAI M20 b22 (x2 : Int32).toNatClampNeg) → ∃ b24 : Nat, mR M20 x0 3 = some b24 ∧ ok M20 b24 21 ∧ vp_in x2 (mL M20 b24) ∧ ((r15 ||| r21) = (mAI M20 b24 (x2 : Int32).toNatClampNeg) → DX0_sweep_101 h x0 x1 x2 M20 Q) ∧
  (¬ ((r15 ||| r21) = (mAI M20 b24 (x2 : Int32).toNatClampNeg)) → DX0_sweep_84 h x0 x2 (r5 &&& r9) (r15 ||| r21) M20 Q)))))))))
set_option maxRecDepth 20000 in
set_option maxHeartbeats 2000000 in
theorem VX0_sweep_4 {h : Nat} {x0 : Nat} {x1 : Int32} {x2 : Int32} {M : Mem} {Q : Option Value → Mem → Prop} (H : DX0_sweep_4 h x0 x1 x2 M Q) : T (h + 1) mdX0_sweep 4 [(0, .ref x0), (1, .int x1), (2, .int x2)] [] M Q := by
  unfold DX0_sweep_4 at H
  refine xt_iload_n (j := 2) dX0_sweep_4 rfl rfl ?_
  refine xt_aload_n (j := 0) dX0_sweep_5 rfl rfl ?_
  obtain ⟨ho1, H⟩ := H
  refine xt_getI dX0_sweep_6 (flX0_22 rfl) ft_2_4 ho1.1 ho1.2 ?_
  refine xt_icmp_ge (tgt := 107) dX0_sweep_9 (by decide) (fun hc => ?_) (fun hc => ?_)
  · have H := H.1 hc
    refine xt_iload_n (j := 1) dX0_sweep_107 rfl rfl ?_
    exact xt_zreturn dX0_sweep_108 rfl H.1 H.2
  · have H := H.2 hc
    refine xt_aload_n (j := 0) dX0_sweep_12 rfl rfl ?_
    refine xt_aload_n (j := 0) dX0_sweep_13 rfl rfl ?_
    obtain ⟨b2, hb, H⟩ := H
    refine xt_getR dX0_sweep_14 (flX0_9 rfl) ft_2_0 ho1.1 ho1.2 hb ?_
    refine xt_iload_n (j := 2) dX0_sweep_17 rfl rfl ?_
    obtain ⟨ho3, H⟩ := H
    obtain ⟨hi, H⟩ := H
    refine xt_iald dX0_sweep_18 ho3.1 ho3.2 hi ?_
    refine xt_callV (h2 := h) (as := [.int (mAI M b2 (x2 : Int32).toNatClampNeg)]) (st := []) dX0_sweep_19 (mlX0_126 rfl) rfl ho1.1 ⟨by rw [ho1.2]; rfl, by rw [ho1.2]; decide⟩ (by first | decide | (simp [Value.category]; done)) (Nat.le_refl _) H (fun r M4 HH hE => ?_)
    obtain ⟨r5, hr, H⟩ := HH hE
    subst hr
    have ho1 := ok_E ho1 hE
    show T _ _ _ _ [.int r5] _ _
    refine xt_aload_n (j := 0) dX0_sweep_22 rfl rfl ?_
    refine xt_aload_n (j := 0) dX0_sweep_23 rfl rfl ?_
    obtain ⟨b6, hb, H⟩ := H
    refine xt_getR dX0_sweep_24 (flX0_13 rfl) ft_2_1 ho1.1 ho1.2 hb ?_
    refine xt_iload_n (j := 2) dX0_sweep_27 rfl rfl ?_
    obtain ⟨ho7, H⟩ := H
    obtain ⟨hi, H⟩ := H
    refine xt_iald dX0_sweep_28 ho7.1 ho7.2 hi ?_
    refine xt_callV (h2 := h) (as := [.int (mAI M4 b6 (x2 : Int32).toNatClampNeg)]) (st := [.int r5]) dX0_sweep_29 (mlX0_126 rfl) rfl ho1.1 ⟨by rw [ho1.2]; rfl, by rw [ho1.2]; decide⟩ (by first | decide | (simp [Value.category]; done)) (Nat.le_refl _) H (fun r M8 HH hE => ?_)
    obtain ⟨r9, hr, H⟩ := HH hE
    subst hr
    have ho1 := ok_E ho1 hE
    show T _ _ _ _ [.int r9, .int r5] _ _
    refine xt_iand dX0_sweep_32 ?_
    refine xt_istore_n (lv' := [(3, .int (r5 &&& r9)), (0, .ref x0), (1, .int x1), (2, .int x2)]) dX0_sweep_33 rfl (by decide) rfl ?_
    refine xt_aload_n (j := 1) dX0_sweep_34 rfl rfl ?_
    refine xt_aload_n (j := 1) dX0_sweep_35 rfl rfl ?_
    obtain ⟨b10, hb, H⟩ := H
    refine xt_getR dX0_sweep_36 (flX0_9 rfl) ft_2_0 ho1.1 ho1.2 hb ?_
    refine xt_iload_n (j := 3) dX0_sweep_39 rfl rfl ?_
    obtain ⟨ho11, H⟩ := H
    obtain ⟨hi, H⟩ := H
    refine xt_iald dX0_sweep_40 ho11.1 ho11.2 hi ?_
    refine xt_callS (h2 := h) (as := [.int (mAI M8 b10 (x2 : Int32).toNatClampNeg)]) (st := [.ref x0]) dX0_sweep_41 (mlX0_72 rfl) rfl (by first | decide | (simp [Value.category]; done)) (Nat.le_refl _) H (fun r M12 HH hE => ?_)
    obtain ⟨r13, hr, H⟩ := HH hE
    subst hr
    have ho1 := ok_E ho1 hE
    show T _ _ _ _ [.int r13, .ref x0] _ _
    refine xt_callV (h2 := h) (as := [.int r13]) (st := []) dX0_sweep_44 (mlX0_126 rfl) rfl ho1.1 ⟨by rw [ho1.2]; rfl, by rw [ho1.2]; decide⟩ (by first | decide | (simp [Value.category]; done)) (Nat.le_refl _) H (fun r M14 HH hE => ?_)
    obtain ⟨r15, hr, H⟩ := HH hE
    subst hr
    have ho1 := ok_E ho1 hE
    show T _ _ _ _ [.int r15] _ _
    refine xt_aload_n (j := 1) dX0_sweep_47 rfl rfl ?_
    refine xt_aload_n (j := 1) dX0_sweep_48 rfl rfl ?_
    obtain ⟨b16, hb, H⟩ := H
    refine xt_getR dX0_sweep_49 (flX0_13 rfl) ft_2_1 ho1.1 ho1.2 hb ?_
    refine xt_iload_n (j := 3) dX0_sweep_52 rfl rfl ?_
    obtain ⟨ho17, H⟩ := H
    obtain ⟨hi, H⟩ := H
    refine xt_iald dX0_sweep_53 ho17.1 ho17.2 hi ?_
    refine xt_callS (h2 := h) (as := [.int (mAI M14 b16 (x2 : Int32).toNatClampNeg)]) (st := [.ref x0, .int r15]) dX0_sweep_54 (mlX0_72 rfl) rfl (by first | decide | (simp [Value.category]; done)) (Nat.le_refl _) H (fun r M18 HH hE => ?_)
    obtain ⟨r19, hr, H⟩ := HH hE
    subst hr
    have ho1 := ok_E ho1 hE
    show T _ _ _ _ [.int r19, .ref x0, .int r15] _ _
    refine xt_callV (h2 := h) (as := [.int r19]) (st := [.int r15]) dX0_sweep_57 (mlX0_126 rfl) rfl ho1.1 ⟨by rw [ho1.2]; rfl, by rw [ho1.2]; decide⟩ (by first | decide | (simp [Value.category]; done)) (Nat.le_refl _) H (fun r M20 HH hE => ?_)
    obtain ⟨r21, hr, H⟩ := HH hE
    subst hr
    have ho1 := ok_E ho1 hE
    show T _ _ _ _ [.int r21, .int r15] _ _
    refine xt_ior dX0_sweep_60 ?_
    refine xt_istore (lv' := [(4, .int (r15 ||| r21)), (3, .int (r5 &&& r9)), (0, .ref x0), (1, .int x1), (2, .int x2)]) dX0_sweep_61 (by decide) rfl ?_
    refine xt_iload_n (j := 1) dX0_sweep_63 rfl rfl ?_
    refine xt_aload_n (j := 2) dX0_sweep_64 rfl rfl ?_
    obtain ⟨b22, hb, H⟩ := H
    refine xt_getR dX0_sweep_65 (flX0_16 rfl) ft_2_2 ho1.1 ho1.2 hb ?_
    refine xt_iload_n (j := 4) dX0_sweep_68 rfl rfl ?_
    obtain ⟨ho23, H⟩ := H
    obtain ⟨hi, H⟩ := H
    refine xt_iald dX0_sweep_69 ho23.1 ho23.2 hi ?_
    refine xt_icmp_ne (tgt := 84) dX0_sweep_70 (by decide) (fun hc => ?_) (fun hc => ?_)
    · have H := H.1 hc
      exact xt_sub [2, 4, 1, 0] rfl (VX0_sweep_84 H)
    · have H := H.2 hc
      refine xt_iload (j := 0) dX0_sweep_73 rfl ?_
      refine xt_aload_n (j := 2) dX0_sweep_75 rfl rfl ?_
      obtain ⟨b24, hb, H⟩ := H
      refine xt_getR dX0_sweep_76 (flX0_19 rfl) ft_2_3 ho1.1 ho1.2 hb ?_
      refine xt_iload_n (j := 4) dX0_sweep_79 rfl rfl ?_
      obtain ⟨ho25, H⟩ := H
      obtain ⟨hi, H⟩ := H
      refine xt_iald dX0_sweep_80 ho25.1 ho25.2 hi ?_
      refine xt_icmp_eq (tgt := 101) dX0_sweep_81 (by decide) (fun hc => ?_) (fun hc => ?_)
      · have H := H.1 hc
        exact xt_sub [2, 3, 4] rfl (VX0_sweep_101 H)
      · have H := H.2 hc
        exact xt_sub [2, 4, 1, 0] rfl (VX0_sweep_84 H)
def DX0_sweep_0 (h : Nat) (x0 : Nat) (M : Mem) (Q : Option Value → Mem → Prop) : Prop :=
  T (h + 1) mdX0_sweep 4 [(0, .ref x0), (1, .int 0), (2, .int 1)] [] M Q
set_option maxRecDepth 20000 in
set_option maxHeartbeats 2000000 in
theorem VX0_sweep_0 {h : Nat} {x0 : Nat} {M : Mem} {Q : Option Value → Mem → Prop} (H : DX0_sweep_0 h x0 M Q) : T (h + 1) mdX0_sweep 0 [(0, .ref x0)] [] M Q := by
  unfold DX0_sweep_0 at H
  refine xt_iconst (v := 0) dX0_sweep_0 (by decide) ?_
  refine xt_istore_n (lv' := [(1, .int 0), (0, .ref x0)]) dX0_sweep_1 rfl (by decide) rfl ?_
  refine xt_iconst (v := 1) dX0_sweep_2 (by decide) ?_
  refine xt_istore_n (lv' := [(2, .int 1), (1, .int 0), (0, .ref x0)]) dX0_sweep_3 rfl (by decide) rfl ?_
  exact xt_sub (lv' := [(0, .ref x0), (1, .int 0), (2, .int 1)]) [2, 1, 0] rfl H
theorem KX0_sweep {h : Nat} {x0 : Nat} {M : Mem} {Q : Option Value → Mem → Prop} (H : DX0_sweep_0 h x0 M Q) : E (h + 1) mdX0_sweep [.ref x0] M Q := E.of (by decide) (Nat.le_of_ble_eq_true rfl) (fun _ _ _ => trivial) (VX0_sweep_0 H)
def DX0_lanesOf_25 (h : Nat) (s0 : Int32) (M : Mem) (Q : Option Value → Mem → Prop) : Prop :=
  Q (some (.int s0)) M
set_option maxRecDepth 20000 in
set_option maxHeartbeats 2000000 in
theorem VX0_lanesOf_25 {h : Nat} {s0 : Int32} {M : Mem} {Q : Option Value → Mem → Prop} (H : DX0_lanesOf_25 h s0 M Q) : T (h + 1) mdX0_lanesOf 25 [] [.int s0] M Q := by
  unfold DX0_lanesOf_25 at H
  exact xt_ireturn dX0_lanesOf_25 rfl H
def DX0_lanesOf_0 (h : Nat) (x0 : Nat) (x1 : Int32) (M : Mem) (Q : Option Value → Mem → Prop) : Prop :=
  (¬ (x1 &&& 1) = 0 → ok M x0 2 ∧ ∃ b2 : Nat, mR M x0 3 = some b2 ∧ ok M b2 21 ∧ vp_in (((x1 : Int32).toUInt32 >>> ((1 : Int32).toUInt32 &&& Int32.toUInt32 31)).toInt32) (mL M b2) ∧ DX0_lanesOf_25 h (mAI M b2 (((x1 : Int32).toUInt32 >>> ((1 : Int32).toUInt32 &&& Int32.toUInt32 31)).toInt32 : Int32).toNatClampNeg) M Q) ∧
  ((x1 &&& 1) = 0 → ok M x0 2 ∧ ∃ b5 : Nat, mR M x0 2 = some b5 ∧ ok M b5 21 ∧ vp_in (((x1 : Int32).toUInt32 >>> ((1 : Int32).toUInt32 &&& Int32.toUInt32 31)).toInt32) (mL M b5) ∧ DX0_lanesOf_25 h (mAI M b5 (((x1 : Int32).toUInt32 >>> ((1 : Int32).toUInt32 &&& Int32.toUInt32 31)).toInt32 : Int32).toNatClampNeg) M Q)
set_option maxRecDepth 20000 in
set_option maxHeartbeats 2000000 in
theorem VX0_lanesOf_0 {h : Nat} {x0 : Nat} {x1 : Int32} {M : Mem} {Q : Option Value → Mem → Prop} (H : DX0_lanesOf_0 h x0 x1 M Q) : T (h + 1) mdX0_lanesOf 0 [(0, .ref x0), (1, .int x1)] [] M Q := by
  unfold DX0_lanesOf_0 at H
  refine xt_iload_n (j := 1) dX0_lanesOf_0 rfl rfl ?_
  refine xt_iconst (v := 1) dX0_lanesOf_1 (by decide) ?_
  refine xt_iand dX0_lanesOf_2 ?_
  refine xt_if_ne (tgt := 17) dX0_lanesOf_3 (by decide) (fun hc => ?_) (fun hc => ?_)
  · have H := H.1 hc
    refine xt_aload_n (j := 0) dX0_lanesOf_17 rfl rfl ?_
    obtain ⟨ho1, H⟩ := H
    obtain ⟨b2, hb, H⟩ := H
    refine xt_getR dX0_lanesOf_18 (flX0_19 rfl) ft_2_3 ho1.1 ho1.2 hb ?_
    refine xt_iload_n (j := 1) dX0_lanesOf_21 rfl rfl ?_
    refine xt_iconst (v := 1) dX0_lanesOf_22 (by decide) ?_
    refine xt_iushr dX0_lanesOf_23 ?_
    obtain ⟨ho3, H⟩ := H
    obtain ⟨hi, H⟩ := H
    refine xt_iald dX0_lanesOf_24 ho3.1 ho3.2 hi ?_
    exact xt_sub [] rfl (VX0_lanesOf_25 H)
  · have H := H.2 hc
    refine xt_aload_n (j := 0) dX0_lanesOf_6 rfl rfl ?_
    obtain ⟨ho4, H⟩ := H
    obtain ⟨b5, hb, H⟩ := H
    refine xt_getR dX0_lanesOf_7 (flX0_16 rfl) ft_2_2 ho4.1 ho4.2 hb ?_
    refine xt_iload_n (j := 1) dX0_lanesOf_10 rfl rfl ?_
    refine xt_iconst (v := 1) dX0_lanesOf_11 (by decide) ?_
    refine xt_iushr dX0_lanesOf_12 ?_
    obtain ⟨ho6, H⟩ := H
    obtain ⟨hi, H⟩ := H
    refine xt_iald dX0_lanesOf_13 ho6.1 ho6.2 hi ?_
    refine xt_goto (tgt := 25) dX0_lanesOf_14 (by decide) ?_
    exact xt_sub [] rfl (VX0_lanesOf_25 H)
theorem KX0_lanesOf {h : Nat} {x0 : Nat} {x1 : Int32} {M : Mem} {Q : Option Value → Mem → Prop} (H : DX0_lanesOf_0 h x0 x1 M Q) : E (h + 1) mdX0_lanesOf [.ref x0, .int x1] M Q := E.of (by decide) (Nat.le_of_ble_eq_true rfl) (fun _ _ _ => trivial) (VX0_lanesOf_0 H)
def DX0_stuckLanes_4 (h : Nat) (x0 : Nat) (x1 : Int32) (x2 : Int32) (M : Mem) (Q : Option Value → Mem → Prop) : Prop :=
  ok M x0 2 ∧ ((mI M x0 4) ≤ x2 → Q (some (.int x1)) M) ∧
  (¬ ((mI M x0 4) ≤ x2) → ∃ b2 : Nat, mR M x0 2 = some b2 ∧ ok M b2 21 ∧ vp_in x2 (mL M b2) ∧ ∃ b4 : Nat, mR M x0 3 = some b4 ∧ ok M b4 21 ∧ vp_in x2 (mL M b4) ∧ T (h + 1) mdX0_stuckLanes 4 [(0, .ref x0), (1, .int (x1 ||| (((mAI M b2 (x2 : Int32).toNatClampNeg) ||| (mAI M b4 (x2 : Int32).toNatClampNeg)) ^^^ (-1)))), (2, .int (x2 + 1))] [] M Q)
set_option maxRecDepth 20000 in
set_option maxHeartbeats 2000000 in
theorem VX0_stuckLanes_4 {h : Nat} {x0 : Nat} {x1 : Int32} {x2 : Int32} {M : Mem} {Q : Option Value → Mem → Prop} (H : DX0_stuckLanes_4 h x0 x1 x2 M Q) : T (h + 1) mdX0_stuckLanes 4 [(0, .ref x0), (1, .int x1), (2, .int x2)] [] M Q := by
  unfold DX0_stuckLanes_4 at H
  refine xt_iload_n (j := 2) dX0_stuckLanes_4 rfl rfl ?_
  refine xt_aload_n (j := 0) dX0_stuckLanes_5 rfl rfl ?_
  obtain ⟨ho1, H⟩ := H
  refine xt_getI dX0_stuckLanes_6 (flX0_22 rfl) ft_2_4 ho1.1 ho1.2 ?_
  refine xt_icmp_ge (tgt := 36) dX0_stuckLanes_9 (by decide) (fun hc => ?_) (fun hc => ?_)
  · have H := H.1 hc
    refine xt_iload_n (j := 1) dX0_stuckLanes_36 rfl rfl ?_
    exact xt_ireturn dX0_stuckLanes_37 rfl H
  · have H := H.2 hc
    refine xt_iload_n (j := 1) dX0_stuckLanes_12 rfl rfl ?_
    refine xt_aload_n (j := 0) dX0_stuckLanes_13 rfl rfl ?_
    obtain ⟨b2, hb, H⟩ := H
    refine xt_getR dX0_stuckLanes_14 (flX0_16 rfl) ft_2_2 ho1.1 ho1.2 hb ?_
    refine xt_iload_n (j := 2) dX0_stuckLanes_17 rfl rfl ?_
    obtain ⟨ho3, H⟩ := H
    obtain ⟨hi, H⟩ := H
    refine xt_iald dX0_stuckLanes_18 ho3.1 ho3.2 hi ?_
    refine xt_aload_n (j := 0) dX0_stuckLanes_19 rfl rfl ?_
    obtain ⟨b4, hb, H⟩ := H
    refine xt_getR dX0_stuckLanes_20 (flX0_19 rfl) ft_2_3 ho1.1 ho1.2 hb ?_
    refine xt_iload_n (j := 2) dX0_stuckLanes_23 rfl rfl ?_
    obtain ⟨ho5, H⟩ := H
    obtain ⟨hi, H⟩ := H
    refine xt_iald dX0_stuckLanes_24 ho5.1 ho5.2 hi ?_
    refine xt_ior dX0_stuckLanes_25 ?_
    refine xt_iconst (v := -1) dX0_stuckLanes_26 (by decide) ?_
    refine xt_ixor dX0_stuckLanes_27 ?_
    refine xt_ior dX0_stuckLanes_28 ?_
    refine xt_istore_n (lv' := [(1, .int (x1 ||| (((mAI M b2 (x2 : Int32).toNatClampNeg) ||| (mAI M b4 (x2 : Int32).toNatClampNeg)) ^^^ (-1)))), (0, .ref x0), (2, .int x2)]) dX0_stuckLanes_29 rfl (by decide) rfl ?_
    refine xt_iinc (j := 2) (v := x2 + 1) (lv' := [(2, .int (x2 + 1)), (1, .int (x1 ||| (((mAI M b2 (x2 : Int32).toNatClampNeg) ||| (mAI M b4 (x2 : Int32).toNatClampNeg)) ^^^ (-1)))), (0, .ref x0)]) dX0_stuckLanes_30 rfl (by rfl) (by decide) rfl ?_
    refine xt_goto (tgt := 4) dX0_stuckLanes_33 (by decide) ?_
    exact xt_sub (lv' := [(0, .ref x0), (1, .int (x1 ||| (((mAI M b2 (x2 : Int32).toNatClampNeg) ||| (mAI M b4 (x2 : Int32).toNatClampNeg)) ^^^ (-1)))), (2, .int (x2 + 1))]) [2, 1, 0] rfl H
def DX0_stuckLanes_0 (h : Nat) (x0 : Nat) (M : Mem) (Q : Option Value → Mem → Prop) : Prop :=
  T (h + 1) mdX0_stuckLanes 4 [(0, .ref x0), (1, .int 0), (2, .int 0)] [] M Q
set_option maxRecDepth 20000 in
set_option maxHeartbeats 2000000 in
theorem VX0_stuckLanes_0 {h : Nat} {x0 : Nat} {M : Mem} {Q : Option Value → Mem → Prop} (H : DX0_stuckLanes_0 h x0 M Q) : T (h + 1) mdX0_stuckLanes 0 [(0, .ref x0)] [] M Q := by
  unfold DX0_stuckLanes_0 at H
  refine xt_iconst (v := 0) dX0_stuckLanes_0 (by decide) ?_
  refine xt_istore_n (lv' := [(1, .int 0), (0, .ref x0)]) dX0_stuckLanes_1 rfl (by decide) rfl ?_
  refine xt_iconst (v := 0) dX0_stuckLanes_2 (by decide) ?_
  refine xt_istore_n (lv' := [(2, .int 0), (1, .int 0), (0, .ref x0)]) dX0_stuckLanes_3 rfl (by decide) rfl ?_
  exact xt_sub (lv' := [(0, .ref x0), (1, .int 0), (2, .int 0)]) [2, 1, 0] rfl H
theorem KX0_stuckLanes {h : Nat} {x0 : Nat} {M : Mem} {Q : Option Value → Mem → Prop} (H : DX0_stuckLanes_0 h x0 M Q) : E (h + 1) mdX0_stuckLanes [.ref x0] M Q := E.of (by decide) (Nat.le_of_ble_eq_true rfl) (fun _ _ _ => trivial) (VX0_stuckLanes_0 H)
def DX0_isOn_17 (h : Nat) (s0 : Int32) (M : Mem) (Q : Option Value → Mem → Prop) : Prop :=
  (s0 = 0 ∨ s0 = 1) ∧ Q (some (.int s0)) M
set_option maxRecDepth 20000 in
set_option maxHeartbeats 2000000 in
theorem VX0_isOn_17 {h : Nat} {s0 : Int32} {M : Mem} {Q : Option Value → Mem → Prop} (H : DX0_isOn_17 h s0 M Q) : T (h + 1) mdX0_isOn 17 [] [.int s0] M Q := by
  unfold DX0_isOn_17 at H
  exact xt_zreturn dX0_isOn_17 rfl H.1 H.2
def DX0_isOn_0 (h : Nat) (x0 : Nat) (x1 : Int32) (x2 : Int32) (M : Mem) (Q : Option Value → Mem → Prop) : Prop :=
  ok M x0 2 ∧ E h mdX0_lanesOf [.ref x0, .int x1] M (fun r M2 => mE M M2 → ∃ r3 : Int32, r = some (.int r3) ∧ (((((r3 : Int32).toUInt32 >>> ((x2 : Int32).toUInt32 &&& Int32.toUInt32 31)).toInt32) &&& 1) = 0 → DX0_isOn_17 h 0 M2 Q) ∧
  (¬ (((((r3 : Int32).toUInt32 >>> ((x2 : Int32).toUInt32 &&& Int32.toUInt32 31)).toInt32) &&& 1) = 0) → DX0_isOn_17 h 1 M2 Q))
set_option maxRecDepth 20000 in
set_option maxHeartbeats 2000000 in
theorem VX0_isOn_0 {h : Nat} {x0 : Nat} {x1 : Int32} {x2 : Int32} {M : Mem} {Q : Option Value → Mem → Prop} (H : DX0_isOn_0 h x0 x1 x2 M Q) : T (h + 1) mdX0_isOn 0 [(0, .ref x0), (1, .int x1), (2, .int x2)] [] M Q := by
  unfold DX0_isOn_0 at H
  refine xt_aload_n (j := 0) dX0_isOn_0 rfl rfl ?_
  refine xt_iload_n (j := 1) dX0_isOn_1 rfl rfl ?_
  obtain ⟨ho1, H⟩ := H
  refine xt_callV (h2 := h) (as := [.int x1]) (st := []) dX0_isOn_2 (mlX0_126 rfl) rfl ho1.1 ⟨by rw [ho1.2]; rfl, by rw [ho1.2]; decide⟩ (by first | decide | (simp [Value.category]; done)) (Nat.le_refl _) H (fun r M2 HH hE => ?_)
  obtain ⟨r3, hr, H⟩ := HH hE
  subst hr
  have ho1 := ok_E ho1 hE
  show T _ _ _ _ [.int r3] _ _
  refine xt_iload_n (j := 2) dX0_isOn_5 rfl rfl ?_
  refine xt_iushr dX0_isOn_6 ?_
  refine xt_iconst (v := 1) dX0_isOn_7 (by decide) ?_
  refine xt_iand dX0_isOn_8 ?_
  refine xt_if_eq (tgt := 16) dX0_isOn_9 (by decide) (fun hc => ?_) (fun hc => ?_)
  · have H := H.1 hc
    refine xt_iconst (v := 0) dX0_isOn_16 (by decide) ?_
    exact xt_sub [] rfl (VX0_isOn_17 H)
  · have H := H.2 hc
    refine xt_iconst (v := 1) dX0_isOn_12 (by decide) ?_
    refine xt_goto (tgt := 17) dX0_isOn_13 (by decide) ?_
    exact xt_sub [] rfl (VX0_isOn_17 H)
theorem KX0_isOn {h : Nat} {x0 : Nat} {x1 : Int32} {x2 : Int32} {M : Mem} {Q : Option Value → Mem → Prop} (H : DX0_isOn_0 h x0 x1 x2 M Q) : E (h + 1) mdX0_isOn [.ref x0, .int x1, .int x2] M Q := E.of (by decide) (Nat.le_of_ble_eq_true rfl) (fun _ _ _ => trivial) (VX0_isOn_0 H)
def DX0_truth_28 (h : Nat) (s0 : Int32) (M : Mem) (Q : Option Value → Mem → Prop) : Prop :=
  Q (some (.int s0)) M
set_option maxRecDepth 20000 in
set_option maxHeartbeats 2000000 in
theorem VX0_truth_28 {h : Nat} {s0 : Int32} {M : Mem} {Q : Option Value → Mem → Prop} (H : DX0_truth_28 h s0 M Q) : T (h + 1) mdX0_truth 28 [] [.int s0] M Q := by
  unfold DX0_truth_28 at H
  exact xt_ireturn dX0_truth_28 rfl H
def DX0_truth_0 (h : Nat) (x0 : Nat) (x1 : Int32) (M : Mem) (Q : Option Value → Mem → Prop) : Prop :=
  ok M x0 2 ∧ E h mdX0_isOn [.ref x0, .int x1, .int 0] M (fun r M2 => mE M M2 → ∃ r3 : Int32, r = some (.int r3) ∧ (r3 = 0 → E h mdX0_not [.int x1] M2 (fun r M4 => mE M2 M4 → ∃ r5 : Int32, r = some (.int r5) ∧ E h mdX0_isOn [.ref x0, .int r5, .int 0] M4 (fun r M6 => mE M4 M6 → ∃ r7 : Int32, r = some (.int r7) ∧ (r7 = 0 → DX0_truth_28 h 2 M6 Q) ∧
  (¬ (r7 = 0) → DX0_truth_28 h 0 M6 Q)))) ∧
  (¬ (r3 = 0) → Q (some (.int 1)) M2))
set_option maxRecDepth 20000 in
set_option maxHeartbeats 2000000 in
theorem VX0_truth_0 {h : Nat} {x0 : Nat} {x1 : Int32} {M : Mem} {Q : Option Value → Mem → Prop} (H : DX0_truth_0 h x0 x1 M Q) : T (h + 1) mdX0_truth 0 [(0, .ref x0), (1, .int x1)] [] M Q := by
  unfold DX0_truth_0 at H
  refine xt_aload_n (j := 0) dX0_truth_0 rfl rfl ?_
  refine xt_iload_n (j := 1) dX0_truth_1 rfl rfl ?_
  refine xt_iconst (v := 0) dX0_truth_2 (by decide) ?_
  obtain ⟨ho1, H⟩ := H
  refine xt_callV (h2 := h) (as := [.int x1, .int 0]) (st := []) dX0_truth_3 (mlX0_129 rfl) rfl ho1.1 ⟨by rw [ho1.2]; rfl, by rw [ho1.2]; decide⟩ (by first | decide | (simp [Value.category]; done)) (Nat.le_refl _) H (fun r M2 HH hE => ?_)
  obtain ⟨r3, hr, H⟩ := HH hE
  subst hr
  have ho1 := ok_E ho1 hE
  show T _ _ _ _ [.int r3] _ _
  refine xt_if_eq (tgt := 11) dX0_truth_6 (by decide) (fun hc => ?_) (fun hc => ?_)
  · have H := H.1 hc
    refine xt_aload_n (j := 0) dX0_truth_11 rfl rfl ?_
    refine xt_iload_n (j := 1) dX0_truth_12 rfl rfl ?_
    refine xt_callS (h2 := h) (as := [.int x1]) (st := [.ref x0]) dX0_truth_13 (mlX0_72 rfl) rfl (by first | decide | (simp [Value.category]; done)) (Nat.le_refl _) H (fun r M4 HH hE => ?_)
    obtain ⟨r5, hr, H⟩ := HH hE
    subst hr
    have ho1 := ok_E ho1 hE
    show T _ _ _ _ [.int r5, .ref x0] _ _
    refine xt_iconst (v := 0) dX0_truth_16 (by decide) ?_
    refine xt_callV (h2 := h) (as := [.int r5, .int 0]) (st := []) dX0_truth_17 (mlX0_129 rfl) rfl ho1.1 ⟨by rw [ho1.2]; rfl, by rw [ho1.2]; decide⟩ (by first | decide | (simp [Value.category]; done)) (Nat.le_refl _) H (fun r M6 HH hE => ?_)
    obtain ⟨r7, hr, H⟩ := HH hE
    subst hr
    have ho1 := ok_E ho1 hE
    show T _ _ _ _ [.int r7] _ _
    refine xt_if_eq (tgt := 27) dX0_truth_20 (by decide) (fun hc => ?_) (fun hc => ?_)
    · have H := H.1 hc
      refine xt_iconst (v := 2) dX0_truth_27 (by decide) ?_
      exact xt_sub [] rfl (VX0_truth_28 H)
    · have H := H.2 hc
      refine xt_iconst (v := 0) dX0_truth_23 (by decide) ?_
      refine xt_goto (tgt := 28) dX0_truth_24 (by decide) ?_
      exact xt_sub [] rfl (VX0_truth_28 H)
  · have H := H.2 hc
    refine xt_iconst (v := 1) dX0_truth_9 (by decide) ?_
    exact xt_ireturn dX0_truth_10 rfl H
theorem KX0_truth {h : Nat} {x0 : Nat} {x1 : Int32} {M : Mem} {Q : Option Value → Mem → Prop} (H : DX0_truth_0 h x0 x1 M Q) : E (h + 1) mdX0_truth [.ref x0, .int x1] M Q := E.of (by decide) (Nat.le_of_ble_eq_true rfl) (fun _ _ _ => trivial) (VX0_truth_0 H)
def DX0_shownIn_33 (h : Nat) (x0 : Nat) (x1 : Int32) (x2 : Int32) (x3 : Int32) (M : Mem) (Q : Option Value → Mem → Prop) : Prop :=
  T (h + 1) mdX0_shownIn 4 [(0, .ref x0), (1, .int x1), (2, .int x2), (3, .int (x3 + 1))] [] M Q
set_option maxRecDepth 20000 in
set_option maxHeartbeats 2000000 in
theorem VX0_shownIn_33 {h : Nat} {x0 : Nat} {x1 : Int32} {x2 : Int32} {x3 : Int32} {M : Mem} {Q : Option Value → Mem → Prop} (H : DX0_shownIn_33 h x0 x1 x2 x3 M Q) : T (h + 1) mdX0_shownIn 33 [(0, .ref x0), (1, .int x1), (2, .int x2), (3, .int x3)] [] M Q := by
  unfold DX0_shownIn_33 at H
  refine xt_iinc (j := 3) (v := x3 + 1) (lv' := [(3, .int (x3 + 1)), (0, .ref x0), (1, .int x1), (2, .int x2)]) dX0_shownIn_33 rfl (by rfl) (by decide) rfl ?_
  refine xt_goto (tgt := 4) dX0_shownIn_36 (by decide) ?_
  exact xt_sub (lv' := [(0, .ref x0), (1, .int x1), (2, .int x2), (3, .int (x3 + 1))]) [1, 2, 3, 0] rfl H
def DX0_shownIn_4 (h : Nat) (x0 : Nat) (x1 : Int32) (x2 : Int32) (x3 : Int32) (M : Mem) (Q : Option Value → Mem → Prop) : Prop :=
  ok M x0 2 ∧ ∃ b2 : Nat, mR M x0 13 = some b2 ∧ ok M b2 21 ∧ ((Int32.ofNat (mL M b2)) ≤ x3 → Q (some (.int x2)) M) ∧
  (¬ ((Int32.ofNat (mL M b2)) ≤ x3) → ∃ b4 : Nat, mR M x0 13 = some b4 ∧ ok M b4 21 ∧ vp_in x3 (mL M b4) ∧ E h mdX0_isOn [.ref x0, .int (mAI M b4 (x3 : Int32).toNatClampNeg), .int x1] M (fun r M6 => mE M M6 → ∃ r7 : Int32, r = some (.int r7) ∧ (r7 = 0 → DX0_shownIn_33 h x0 x1 x2 x3 M6 Q) ∧
  (¬ (r7 = 0) → DX0_shownIn_33 h x0 x1 (x2 ||| ((1 : Int32) <<< (x3 &&& 31))) x3 M6 Q)))
set_option maxRecDepth 20000 in
set_option maxHeartbeats 2000000 in
theorem VX0_shownIn_4 {h : Nat} {x0 : Nat} {x1 : Int32} {x2 : Int32} {x3 : Int32} {M : Mem} {Q : Option Value → Mem → Prop} (H : DX0_shownIn_4 h x0 x1 x2 x3 M Q) : T (h + 1) mdX0_shownIn 4 [(0, .ref x0), (1, .int x1), (2, .int x2), (3, .int x3)] [] M Q := by
  unfold DX0_shownIn_4 at H
  refine xt_iload_n (j := 3) dX0_shownIn_4 rfl rfl ?_
  refine xt_aload_n (j := 0) dX0_shownIn_5 rfl rfl ?_
  obtain ⟨ho1, H⟩ := H
  obtain ⟨b2, hb, H⟩ := H
  refine xt_getR dX0_shownIn_6 (flX0_55 rfl) ft_2_13 ho1.1 ho1.2 hb ?_
  obtain ⟨ho3, H⟩ := H
  refine xt_alen dX0_shownIn_9 ho3.1 (Or.inr (Or.inl ho3.2)) ?_
  refine xt_icmp_ge (tgt := 39) dX0_shownIn_10 (by decide) (fun hc => ?_) (fun hc => ?_)
  · have H := H.1 hc
    refine xt_iload_n (j := 2) dX0_shownIn_39 rfl rfl ?_
    exact xt_ireturn dX0_shownIn_40 rfl H
  · have H := H.2 hc
    refine xt_aload_n (j := 0) dX0_shownIn_13 rfl rfl ?_
    refine xt_aload_n (j := 0) dX0_shownIn_14 rfl rfl ?_
    obtain ⟨b4, hb, H⟩ := H
    refine xt_getR dX0_shownIn_15 (flX0_55 rfl) ft_2_13 ho1.1 ho1.2 hb ?_
    refine xt_iload_n (j := 3) dX0_shownIn_18 rfl rfl ?_
    obtain ⟨ho5, H⟩ := H
    obtain ⟨hi, H⟩ := H
    refine xt_iald dX0_shownIn_19 ho5.1 ho5.2 hi ?_
    refine xt_iload_n (j := 1) dX0_shownIn_20 rfl rfl ?_
    refine xt_callV (h2 := h) (as := [.int (mAI M b4 (x3 : Int32).toNatClampNeg), .int x1]) (st := []) dX0_shownIn_21 (mlX0_129 rfl) rfl ho1.1 ⟨by rw [ho1.2]; rfl, by rw [ho1.2]; decide⟩ (by first | decide | (simp [Value.category]; done)) (Nat.le_refl _) H (fun r M6 HH hE => ?_)
    obtain ⟨r7, hr, H⟩ := HH hE
    subst hr
    have ho1 := ok_E ho1 hE
    show T _ _ _ _ [.int r7] _ _
    refine xt_if_eq (tgt := 33) dX0_shownIn_24 (by decide) (fun hc => ?_) (fun hc => ?_)
    · have H := H.1 hc
      exact xt_sub [0, 1, 2, 3] rfl (VX0_shownIn_33 H)
    · have H := H.2 hc
      refine xt_iload_n (j := 2) dX0_shownIn_27 rfl rfl ?_
      refine xt_iconst (v := 1) dX0_shownIn_28 (by decide) ?_
      refine xt_iload_n (j := 3) dX0_shownIn_29 rfl rfl ?_
      refine xt_ishl dX0_shownIn_30 ?_
      refine xt_ior dX0_shownIn_31 ?_
      refine xt_istore_n (lv' := [(2, .int (x2 ||| ((1 : Int32) <<< (x3 &&& 31)))), (0, .ref x0), (1, .int x1), (3, .int x3)]) dX0_shownIn_32 rfl (by decide) rfl ?_
      exact xt_sub [1, 2, 0, 3] rfl (VX0_shownIn_33 H)
def DX0_shownIn_0 (h : Nat) (x0 : Nat) (x1 : Int32) (M : Mem) (Q : Option Value → Mem → Prop) : Prop :=
  T (h + 1) mdX0_shownIn 4 [(0, .ref x0), (1, .int x1), (2, .int 0), (3, .int 0)] [] M Q
set_option maxRecDepth 20000 in
set_option maxHeartbeats 2000000 in
theorem VX0_shownIn_0 {h : Nat} {x0 : Nat} {x1 : Int32} {M : Mem} {Q : Option Value → Mem → Prop} (H : DX0_shownIn_0 h x0 x1 M Q) : T (h + 1) mdX0_shownIn 0 [(0, .ref x0), (1, .int x1)] [] M Q := by
  unfold DX0_shownIn_0 at H
  refine xt_iconst (v := 0) dX0_shownIn_0 (by decide) ?_
  refine xt_istore_n (lv' := [(2, .int 0), (0, .ref x0), (1, .int x1)]) dX0_shownIn_1 rfl (by decide) rfl ?_
  refine xt_iconst (v := 0) dX0_shownIn_2 (by decide) ?_
  refine xt_istore_n (lv' := [(3, .int 0), (2, .int 0), (0, .ref x0), (1, .int x1)]) dX0_shownIn_3 rfl (by decide) rfl ?_
  exact xt_sub (lv' := [(0, .ref x0), (1, .int x1), (2, .int 0), (3, .int 0)]) [2, 3, 1, 0] rfl H
theorem KX0_shownIn {h : Nat} {x0 : Nat} {x1 : Int32} {M : Mem} {Q : Option Value → Mem → Prop} (H : DX0_shownIn_0 h x0 x1 M Q) : E (h + 1) mdX0_shownIn [.ref x0, .int x1] M Q := E.of (by decide) (Nat.le_of_ble_eq_true rfl) (fun _ _ _ => trivial) (VX0_shownIn_0 H)
def DX0_setBehind_87 (h : Nat) (x0 : Nat) (x1 : Int32) (x2 : Int32) (x3 : Int32) (x4 : Int32) (M : Mem) (Q : Option Value → Mem → Prop) : Prop :=
  T (h + 1) mdX0_setBehind 5 [(0, .ref x0), (1, .int x1), (2, .int x2), (3, .int x3), (4, .int (x4 + 1))] [] M Q
set_option maxRecDepth 20000 in
set_option maxHeartbeats 2000000 in
theorem VX0_setBehind_87 {h : Nat} {x0 : Nat} {x1 : Int32} {x2 : Int32} {x3 : Int32} {x4 : Int32} {M : Mem} {Q : Option Value → Mem → Prop} (H : DX0_setBehind_87 h x0 x1 x2 x3 x4 M Q) : T (h + 1) mdX0_setBehind 87 [(0, .ref x0), (1, .int x1), (2, .int x2), (3, .int x3), (4, .int x4)] [] M Q := by
  unfold DX0_setBehind_87 at H
  refine xt_iinc (j := 4) (v := x4 + 1) (lv' := [(4, .int (x4 + 1)), (0, .ref x0), (1, .int x1), (2, .int x2), (3, .int x3)]) dX0_setBehind_87 rfl (by rfl) (by decide) rfl ?_
  refine xt_goto (tgt := 5) dX0_setBehind_90 (by decide) ?_
  exact xt_sub (lv' := [(0, .ref x0), (1, .int x1), (2, .int x2), (3, .int x3), (4, .int (x4 + 1))]) [1, 2, 3, 4, 0] rfl H
def DX0_setBehind_80 (h : Nat) (x0 : Nat) (x1 : Int32) (x2 : Int32) (x3 : Int32) (x4 : Int32) (M : Mem) (Q : Option Value → Mem → Prop) : Prop :=
  DX0_setBehind_87 h x0 x1 x2 (x3 ||| ((1 : Int32) <<< (x4 &&& 31))) x4 M Q
set_option maxRecDepth 20000 in
set_option maxHeartbeats 2000000 in
theorem VX0_setBehind_80 {h : Nat} {x0 : Nat} {x1 : Int32} {x2 : Int32} {x3 : Int32} {x4 : Int32} {M : Mem} {Q : Option Value → Mem → Prop} (H : DX0_setBehind_80 h x0 x1 x2 x3 x4 M Q) : T (h + 1) mdX0_setBehind 80 [(0, .ref x0), (1, .int x1), (2, .int x2), (3, .int x3), (4, .int x4)] [] M Q := by
  unfold DX0_setBehind_80 at H
  refine xt_iload_n (j := 3) dX0_setBehind_80 rfl rfl ?_
  refine xt_iconst (v := 1) dX0_setBehind_81 (by decide) ?_
  refine xt_iload (j := 4) dX0_setBehind_82 rfl ?_
  refine xt_ishl dX0_setBehind_84 ?_
  refine xt_ior dX0_setBehind_85 ?_
  refine xt_istore_n (lv' := [(3, .int (x3 ||| ((1 : Int32) <<< (x4 &&& 31)))), (0, .ref x0), (1, .int x1), (2, .int x2), (4, .int x4)]) dX0_setBehind_86 rfl (by decide) rfl ?_
  exact xt_sub [1, 2, 3, 0, 4] rfl (VX0_setBehind_87 H)
def DX0_setBehind_43 (h : Nat) (x0 : Nat) (x1 : Int32) (x2 : Int32) (x3 : Int32) (x4 : Int32) (s0 : Int32) (M : Mem) (Q : Option Value → Mem → Prop) : Prop :=
  ok M x0 2 ∧ ∃ b2 : Nat, mR M x0 11 = some b2 ∧ ok M b2 21 ∧ vp_in x4 (mL M b2) ∧ E h mdX0_isOn [.ref x0, .int (mAI M b2 (x4 : Int32).toNatClampNeg), .int x1] M (fun r M4 => mE M M4 → ∃ r5 : Int32, r = some (.int r5) ∧ (¬ r5 = 0 → DX0_setBehind_87 h x0 x1 x2 x3 x4 M4 Q) ∧
  (r5 = 0 → ∃ b6 : Nat, mR M4 x0 9 = some b6 ∧ ok M4 b6 21 ∧ vp_in x4 (mL M4 b6) ∧ E h mdX0_isOn [.ref x0, .int (mAI M4 b6 (x4 : Int32).toNatClampNeg), .int x1] M4 (fun r M8 => mE M4 M8 → ∃ r9 : Int32, r = some (.int r9) ∧ (¬ r9 = 0 → DX0_setBehind_80 h x0 x1 x2 x3 x4 M8 Q) ∧
  (r9 = 0 → (s0 = 0 → DX0_setBehind_87 h x0 x1 x2 x3 x4 M8 Q) ∧
  (¬ (s0 = 0) → DX0_setBehind_80 h x0 x1 x2 x3 x4 M8 Q)))))
set_option maxRecDepth 20000 in
set_option maxHeartbeats 2000000 in
theorem VX0_setBehind_43 {h : Nat} {x0 : Nat} {x1 : Int32} {x2 : Int32} {x3 : Int32} {x4 : Int32} {s0 : Int32} {M : Mem} {Q : Option Value → Mem → Prop} (H : DX0_setBehind_43 h x0 x1 x2 x3 x4 s0 M Q) : T (h + 1) mdX0_setBehind 43 [(0, .ref x0), (1, .int x1), (2, .int x2), (3, .int x3), (4, .int x4)] [.int s0] M Q := by
  unfold DX0_setBehind_43 at H
  refine xt_istore (lv' := [(5, .int s0), (0, .ref x0), (1, .int x1), (2, .int x2), (3, .int x3), (4, .int x4)]) dX0_setBehind_43 (by decide) rfl ?_
  refine xt_aload_n (j := 1) dX0_setBehind_45 rfl rfl ?_
  refine xt_aload_n (j := 1) dX0_setBehind_46 rfl rfl ?_
  obtain ⟨ho1, H⟩ := H
  obtain ⟨b2, hb, H⟩ := H
  refine xt_getR dX0_setBehind_47 (flX0_52 rfl) ft_2_11 ho1.1 ho1.2 hb ?_
  refine xt_iload (j := 5) dX0_setBehind_50 rfl ?_
  obtain ⟨ho3, H⟩ := H
  obtain ⟨hi, H⟩ := H
  refine xt_iald dX0_setBehind_52 ho3.1 ho3.2 hi ?_
  refine xt_iload_n (j := 2) dX0_setBehind_53 rfl rfl ?_
  refine xt_callV (h2 := h) (as := [.int (mAI M b2 (x4 : Int32).toNatClampNeg), .int x1]) (st := []) dX0_setBehind_54 (mlX0_129 rfl) rfl ho1.1 ⟨by rw [ho1.2]; rfl, by rw [ho1.2]; decide⟩ (by first | decide | (simp [Value.category]; done)) (Nat.le_refl _) H (fun r M4 HH hE => ?_)
  obtain ⟨r5, hr, H⟩ := HH hE
  subst hr
  have ho1 := ok_E ho1 hE
  show T _ _ _ _ [.int r5] _ _
  refine xt_if_ne (tgt := 87) dX0_setBehind_57 (by decide) (fun hc => ?_) (fun hc => ?_)
  · have H := H.1 hc
    exact xt_sub [1, 2, 3, 4, 5] rfl (VX0_setBehind_87 H)
  · have H := H.2 hc
    refine xt_aload_n (j := 1) dX0_setBehind_60 rfl rfl ?_
    refine xt_aload_n (j := 1) dX0_setBehind_61 rfl rfl ?_
    obtain ⟨b6, hb, H⟩ := H
    refine xt_getR dX0_setBehind_62 (flX0_46 rfl) ft_2_9 ho1.1 ho1.2 hb ?_
    refine xt_iload (j := 5) dX0_setBehind_65 rfl ?_
    obtain ⟨ho7, H⟩ := H
    obtain ⟨hi, H⟩ := H
    refine xt_iald dX0_setBehind_67 ho7.1 ho7.2 hi ?_
    refine xt_iload_n (j := 2) dX0_setBehind_68 rfl rfl ?_
    refine xt_callV (h2 := h) (as := [.int (mAI M4 b6 (x4 : Int32).toNatClampNeg), .int x1]) (st := []) dX0_setBehind_69 (mlX0_129 rfl) rfl ho1.1 ⟨by rw [ho1.2]; rfl, by rw [ho1.2]; decide⟩ (by first | decide | (simp [Value.category]; done)) (Nat.le_refl _) H (fun r M8 HH hE => ?_)
    obtain ⟨r9, hr, H⟩ := HH hE
    subst hr
    have ho1 := ok_E ho1 hE
    show T _ _ _ _ [.int r9] _ _
    refine xt_if_ne (tgt := 80) dX0_setBehind_72 (by decide) (fun hc => ?_) (fun hc => ?_)
    · have H := H.1 hc
      exact xt_sub [1, 2, 3, 4, 5] rfl (VX0_setBehind_80 H)
    · have H := H.2 hc
      refine xt_iload (j := 0) dX0_setBehind_75 rfl ?_
      refine xt_if_eq (tgt := 87) dX0_setBehind_77 (by decide) (fun hc => ?_) (fun hc => ?_)
      · have H := H.1 hc
        exact xt_sub [1, 2, 3, 4, 5] rfl (VX0_setBehind_87 H)
      · have H := H.2 hc
        exact xt_sub [1, 2, 3, 4, 5] rfl (VX0_setBehind_80 H)
def DX0_setBehind_42 (h : Nat) (x0 : Nat) (x1 : Int32) (x2 : Int32) (x3 : Int32) (x4 : Int32) (M : Mem) (Q : Option Value → Mem → Prop) : Prop :=
  DX0_setBehind_43 h x0 x1 x2 x3 x4 0 M Q
set_option maxRecDepth 20000 in
set_option maxHeartbeats 2000000 in
theorem VX0_setBehind_42 {h : Nat} {x0 : Nat} {x1 : Int32} {x2 : Int32} {x3 : Int32} {x4 : Int32} {M : Mem} {Q : Option Value → Mem → Prop} (H : DX0_setBehind_42 h x0 x1 x2 x3 x4 M Q) : T (h + 1) mdX0_setBehind 42 [(0, .ref x0), (1, .int x1), (2, .int x2), (3, .int x3), (4, .int x4)] [] M Q := by
  unfold DX0_setBehind_42 at H
  refine xt_iconst (v := 0) dX0_setBehind_42 (by decide) ?_
  exact xt_sub [0, 1, 2, 3, 4] rfl (VX0_setBehind_43 H)
def DX0_setBehind_5 (h : Nat) (x0 : Nat) (x1 : Int32) (x2 : Int32) (x3 : Int32) (x4 : Int32) (M : Mem) (Q : Option Value → Mem → Prop) : Prop :=
  ok M x0 2 ∧ ((mI M x0 12) ≤ x4 → Q (some (.int x3)) M) ∧
  (¬ ((mI M x0 12) ≤ x4) → ∃ b2 : Nat, mR M x0 10 = some b2 ∧ ok M b2 21 ∧ vp_in x4 (mL M b2) ∧ E h mdX0_isOn [.ref x0, .int (mAI M b2 (x4 : Int32).toNatClampNeg), .int x1] M (fun r M4 => mE M M4 → ∃ r5 : Int32, r = some (.int r5) ∧ (r5 = 0 → DX0_setBehind_42 h x0 x1 x2 x3 x4 M4 Q) ∧
  (¬ (r5 = 0) → (((((x2 : Int32).toUInt32 >>> ((x4 : Int32).toUInt32 &&& Int32.toUInt32 31)).toInt32) &&& 1) = 0 → DX0_setBehind_42 h x0 x1 x2 x3 x4 M4 Q) ∧
  (¬ (((((x2 : Int32).toUInt32 >>> ((x4 : Int32).toUInt32 &&& Int32.toUInt32 31)).toInt32) &&& 1) = 0) → DX0_setBehind_43 h x0 x1 x2 x3 x4 1 M4 Q))))
set_option maxRecDepth 20000 in
set_option maxHeartbeats 2000000 in
theorem VX0_setBehind_5 {h : Nat} {x0 : Nat} {x1 : Int32} {x2 : Int32} {x3 : Int32} {x4 : Int32} {M : Mem} {Q : Option Value → Mem → Prop} (H : DX0_setBehind_5 h x0 x1 x2 x3 x4 M Q) : T (h + 1) mdX0_setBehind 5 [(0, .ref x0), (1, .int x1), (2, .int x2), (3, .int x3), (4, .int x4)] [] M Q := by
  unfold DX0_setBehind_5 at H
  refine xt_iload (j := 4) dX0_setBehind_5 rfl ?_
  refine xt_aload_n (j := 0) dX0_setBehind_7 rfl rfl ?_
  obtain ⟨ho1, H⟩ := H
  refine xt_getI dX0_setBehind_8 (flX0_95 rfl) ft_2_12 ho1.1 ho1.2 ?_
  refine xt_icmp_ge (tgt := 93) dX0_setBehind_11 (by decide) (fun hc => ?_) (fun hc => ?_)
  · have H := H.1 hc
    refine xt_iload_n (j := 3) dX0_setBehind_93 rfl rfl ?_
    exact xt_ireturn dX0_setBehind_94 rfl H
  · have H := H.2 hc
    refine xt_aload_n (j := 0) dX0_setBehind_14 rfl rfl ?_
    refine xt_aload_n (j := 0) dX0_setBehind_15 rfl rfl ?_
    obtain ⟨b2, hb, H⟩ := H
    refine xt_getR dX0_setBehind_16 (flX0_49 rfl) ft_2_10 ho1.1 ho1.2 hb ?_
    refine xt_iload (j := 4) dX0_setBehind_19 rfl ?_
    obtain ⟨ho3, H⟩ := H
    obtain ⟨hi, H⟩ := H
    refine xt_iald dX0_setBehind_21 ho3.1 ho3.2 hi ?_
    refine xt_iload_n (j := 1) dX0_setBehind_22 rfl rfl ?_
    refine xt_callV (h2 := h) (as := [.int (mAI M b2 (x4 : Int32).toNatClampNeg), .int x1]) (st := []) dX0_setBehind_23 (mlX0_129 rfl) rfl ho1.1 ⟨by rw [ho1.2]; rfl, by rw [ho1.2]; decide⟩ (by first | decide | (simp [Value.category]; done)) (Nat.le_refl _) H (fun r M4 HH hE => ?_)
    obtain ⟨r5, hr, H⟩ := HH hE
    subst hr
    have ho1 := ok_E ho1 hE
    show T _ _ _ _ [.int r5] _ _
    refine xt_if_eq (tgt := 42) dX0_setBehind_26 (by decide) (fun hc => ?_) (fun hc => ?_)
    · have H := H.1 hc
      exact xt_sub [0, 1, 2, 3, 4] rfl (VX0_setBehind_42 H)
    · have H := H.2 hc
      refine xt_iload_n (j := 2) dX0_setBehind_29 rfl rfl ?_
      refine xt_iload (j := 4) dX0_setBehind_30 rfl ?_
      refine xt_iushr dX0_setBehind_32 ?_
      refine xt_iconst (v := 1) dX0_setBehind_33 (by decide) ?_
      refine xt_iand dX0_setBehind_34 ?_
      refine xt_if_eq (tgt := 42) dX0_setBehind_35 (by decide) (fun hc => ?_) (fun hc => ?_)
      · have H := H.1 hc
        exact xt_sub [0, 1, 2, 3, 4] rfl (VX0_setBehind_42 H)
      · have H := H.2 hc
        refine xt_iconst (v := 1) dX0_setBehind_38 (by decide) ?_
        refine xt_goto (tgt := 43) dX0_setBehind_39 (by decide) ?_
        exact xt_sub [0, 1, 2, 3, 4] rfl (VX0_setBehind_43 H)
def DX0_setBehind_0 (h : Nat) (x0 : Nat) (x1 : Int32) (x2 : Int32) (M : Mem) (Q : Option Value → Mem → Prop) : Prop :=
  T (h + 1) mdX0_setBehind 5 [(0, .ref x0), (1, .int x1), (2, .int x2), (3, .int 0), (4, .int 0)] [] M Q
set_option maxRecDepth 20000 in
set_option maxHeartbeats 2000000 in
theorem VX0_setBehind_0 {h : Nat} {x0 : Nat} {x1 : Int32} {x2 : Int32} {M : Mem} {Q : Option Value → Mem → Prop} (H : DX0_setBehind_0 h x0 x1 x2 M Q) : T (h + 1) mdX0_setBehind 0 [(0, .ref x0), (1, .int x1), (2, .int x2)] [] M Q := by
  unfold DX0_setBehind_0 at H
  refine xt_iconst (v := 0) dX0_setBehind_0 (by decide) ?_
  refine xt_istore_n (lv' := [(3, .int 0), (0, .ref x0), (1, .int x1), (2, .int x2)]) dX0_setBehind_1 rfl (by decide) rfl ?_
  refine xt_iconst (v := 0) dX0_setBehind_2 (by decide) ?_
  refine xt_istore (lv' := [(4, .int 0), (3, .int 0), (0, .ref x0), (1, .int x1), (2, .int x2)]) dX0_setBehind_3 (by decide) rfl ?_
  exact xt_sub (lv' := [(0, .ref x0), (1, .int x1), (2, .int x2), (3, .int 0), (4, .int 0)]) [2, 3, 4, 1, 0] rfl H
theorem KX0_setBehind {h : Nat} {x0 : Nat} {x1 : Int32} {x2 : Int32} {M : Mem} {Q : Option Value → Mem → Prop} (H : DX0_setBehind_0 h x0 x1 x2 M Q) : E (h + 1) mdX0_setBehind [.ref x0, .int x1, .int x2] M Q := E.of (by decide) (Nat.le_of_ble_eq_true rfl) (fun _ _ _ => trivial) (VX0_setBehind_0 H)
