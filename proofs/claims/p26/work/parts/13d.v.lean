def DX8_init_0 (h : Nat) (x0 : Nat) (M : Mem) (Q : Option Value → Mem → Prop) : Prop :=
  ¬ (640 : Int32) < 0 ∧ ((640 : Int32).toNatClampNeg ≤ 100000000) ∧ ∀ (q2 : Nat) (M1 : Mem), q2 = mN M → M1 = nwA M 21 ((640 : Int32).toNatClampNeg) →
  ok M1 x0 10 ∧ ∀ M4 : Mem, M4 = wR M1 x0 0 (some q2) →
  ¬ (640 : Int32) < 0 ∧ ((640 : Int32).toNatClampNeg ≤ 100000000) ∧ ∀ (q6 : Nat) (M5 : Mem), q6 = mN M4 → M5 = nwA M4 21 ((640 : Int32).toNatClampNeg) →
  ∀ M7 : Mem, M7 = wR M5 x0 1 (some q6) →
  ¬ (640 : Int32) < 0 ∧ ((640 : Int32).toNatClampNeg ≤ 100000000) ∧ ∀ (q9 : Nat) (M8 : Mem), q9 = mN M7 → M8 = nwA M7 21 ((640 : Int32).toNatClampNeg) →
  ∀ M10 : Mem, M10 = wR M8 x0 2 (some q9) →
  ¬ (640 : Int32) < 0 ∧ ((640 : Int32).toNatClampNeg ≤ 100000000) ∧ ∀ (q12 : Nat) (M11 : Mem), q12 = mN M10 → M11 = nwA M10 21 ((640 : Int32).toNatClampNeg) →
  ∀ M13 : Mem, M13 = wR M11 x0 3 (some q12) →
  ¬ (640 : Int32) < 0 ∧ ((640 : Int32).toNatClampNeg ≤ 100000000) ∧ ∀ (q15 : Nat) (M14 : Mem), q15 = mN M13 → M14 = nwA M13 21 ((640 : Int32).toNatClampNeg) →
  ∀ M16 : Mem, M16 = wR M14 x0 4 (some q15) →
  ¬ (640 : Int32) < 0 ∧ ((640 : Int32).toNatClampNeg ≤ 100000000) ∧ ∀ (q18 : Nat) (M17 : Mem), q18 = mN M16 → M17 = nwA M16 21 ((640 : Int32).toNatClampNeg) →
  ∀ M19 : Mem, M19 = wR M17 x0 5 (some q18) →
  ¬ (640 : Int32) < 0 ∧ ((640 : Int32).toNatClampNeg ≤ 100000000) ∧ ∀ (q21 : Nat) (M20 : Mem), q21 = mN M19 → M20 = nwA M19 21 ((640 : Int32).toNatClampNeg) →
  ∀ M22 : Mem, M22 = wR M20 x0 6 (some q21) →
  ¬ (640 : Int32) < 0 ∧ ((640 : Int32).toNatClampNeg ≤ 100000000) ∧ ∀ (q24 : Nat) (M23 : Mem), q24 = mN M22 → M23 = nwA M22 21 ((640 : Int32).toNatClampNeg) →
  ∀ M25 : Mem, M25 = wR M23 x0 7 (some q24) →
  ¬ (640 : Int32) < 0 ∧ ((640 : Int32).toNatClampNeg ≤ 100000000) ∧ ∀ (q27 : Nat) (M26 : Mem), q27 = mN M25 → M26 = nwA M25 21 ((640 : Int32).toNatClampNeg) →
  ∀ M28 : Mem, M28 = wR M26 x0 8 (some q27) →
  Q none M28
set_option maxRecDepth 20000 in
set_option maxHeartbeats 2000000 in
theorem VX8_init_0 {h : Nat} {x0 : Nat} {M : Mem} {Q : Option Value → Mem → Prop} (H : DX8_init_0 h x0 M Q) : T (h + 1) mdX8_init 0 [(0, .ref x0)] [] M Q := by
  unfold DX8_init_0 at H
  refine xt_aload_n (j := 0) dX8_init_0 rfl rfl ?_
  refine xt_objInit dX8_init_1 (oiX8_1 rfl) (by decide) (Nat.succ_le_succ (Nat.zero_le _)) ?_
  refine xt_aload_n (j := 0) dX8_init_4 rfl rfl ?_
  refine xt_sipush (v := 640) dX8_init_5 (by decide) ?_
  obtain ⟨hn, hy, H⟩ := H
  obtain ⟨M1, eM1⟩ : ∃ z, z = nwA M 21 ((640 : Int32).toNatClampNeg) := ⟨_, rfl⟩
  obtain ⟨q2, eq2⟩ : ∃ z, z = mN M := ⟨_, rfl⟩
  have H := H _ _ eq2 eM1
  refine xt_newI dX8_init_8 ac_I hn rfl hy ?_
  rw [← eM1, ← eq2]
  obtain ⟨ho3, H⟩ := H
  obtain ⟨M4, eM4⟩ : ∃ z, z = wR M1 x0 0 (some q2) := ⟨_, rfl⟩
  have H := H _ eM4
  refine xt_putR dX8_init_10 (flX8_9 rfl) ft_10_0 rfl ho3.1 ho3.2 ?_
  have ho3 : ok M4 x0 10 := by rw [eM4]; exact ho3
  rw [← eM4]
  refine xt_aload_n (j := 0) dX8_init_13 rfl rfl ?_
  refine xt_sipush (v := 640) dX8_init_14 (by decide) ?_
  obtain ⟨hn, hy, H⟩ := H
  obtain ⟨M5, eM5⟩ : ∃ z, z = nwA M4 21 ((640 : Int32).toNatClampNeg) := ⟨_, rfl⟩
  obtain ⟨q6, eq6⟩ : ∃ z, z = mN M4 := ⟨_, rfl⟩
  have H := H _ _ eq6 eM5
  refine xt_newI dX8_init_17 ac_I hn rfl hy ?_
  have ho3 : ok M5 x0 10 := by rw [eM5]; exact ok_nwA ho3
  rw [← eM5, ← eq6]
  obtain ⟨M7, eM7⟩ : ∃ z, z = wR M5 x0 1 (some q6) := ⟨_, rfl⟩
  have H := H _ eM7
  refine xt_putR dX8_init_19 (flX8_13 rfl) ft_10_1 rfl ho3.1 ho3.2 ?_
  have ho3 : ok M7 x0 10 := by rw [eM7]; exact ho3
  rw [← eM7]
  refine xt_aload_n (j := 0) dX8_init_22 rfl rfl ?_
  refine xt_sipush (v := 640) dX8_init_23 (by decide) ?_
  obtain ⟨hn, hy, H⟩ := H
  obtain ⟨M8, eM8⟩ : ∃ z, z = nwA M7 21 ((640 : Int32).toNatClampNeg) := ⟨_, rfl⟩
  obtain ⟨q9, eq9⟩ : ∃ z, z = mN M7 := ⟨_, rfl⟩
  have H := H _ _ eq9 eM8
  refine xt_newI dX8_init_26 ac_I hn rfl hy ?_
  have ho3 : ok M8 x0 10 := by rw [eM8]; exact ok_nwA ho3
  rw [← eM8, ← eq9]
  obtain ⟨M10, eM10⟩ : ∃ z, z = wR M8 x0 2 (some q9) := ⟨_, rfl⟩
  have H := H _ eM10
  refine xt_putR dX8_init_28 (flX8_16 rfl) ft_10_2 rfl ho3.1 ho3.2 ?_
  have ho3 : ok M10 x0 10 := by rw [eM10]; exact ho3
  rw [← eM10]
  refine xt_aload_n (j := 0) dX8_init_31 rfl rfl ?_
  refine xt_sipush (v := 640) dX8_init_32 (by decide) ?_
  obtain ⟨hn, hy, H⟩ := H
  obtain ⟨M11, eM11⟩ : ∃ z, z = nwA M10 21 ((640 : Int32).toNatClampNeg) := ⟨_, rfl⟩
  obtain ⟨q12, eq12⟩ : ∃ z, z = mN M10 := ⟨_, rfl⟩
  have H := H _ _ eq12 eM11
  refine xt_newI dX8_init_35 ac_I hn rfl hy ?_
  have ho3 : ok M11 x0 10 := by rw [eM11]; exact ok_nwA ho3
  rw [← eM11, ← eq12]
  obtain ⟨M13, eM13⟩ : ∃ z, z = wR M11 x0 3 (some q12) := ⟨_, rfl⟩
  have H := H _ eM13
  refine xt_putR dX8_init_37 (flX8_19 rfl) ft_10_3 rfl ho3.1 ho3.2 ?_
  have ho3 : ok M13 x0 10 := by rw [eM13]; exact ho3
  rw [← eM13]
  refine xt_aload_n (j := 0) dX8_init_40 rfl rfl ?_
  refine xt_sipush (v := 640) dX8_init_41 (by decide) ?_
  obtain ⟨hn, hy, H⟩ := H
  obtain ⟨M14, eM14⟩ : ∃ z, z = nwA M13 21 ((640 : Int32).toNatClampNeg) := ⟨_, rfl⟩
  obtain ⟨q15, eq15⟩ : ∃ z, z = mN M13 := ⟨_, rfl⟩
  have H := H _ _ eq15 eM14
  refine xt_newI dX8_init_44 ac_I hn rfl hy ?_
  have ho3 : ok M14 x0 10 := by rw [eM14]; exact ok_nwA ho3
  rw [← eM14, ← eq15]
  obtain ⟨M16, eM16⟩ : ∃ z, z = wR M14 x0 4 (some q15) := ⟨_, rfl⟩
  have H := H _ eM16
  refine xt_putR dX8_init_46 (flX8_22 rfl) ft_10_4 rfl ho3.1 ho3.2 ?_
  have ho3 : ok M16 x0 10 := by rw [eM16]; exact ho3
  rw [← eM16]
  refine xt_aload_n (j := 0) dX8_init_49 rfl rfl ?_
  refine xt_sipush (v := 640) dX8_init_50 (by decide) ?_
  obtain ⟨hn, hy, H⟩ := H
  obtain ⟨M17, eM17⟩ : ∃ z, z = nwA M16 21 ((640 : Int32).toNatClampNeg) := ⟨_, rfl⟩
  obtain ⟨q18, eq18⟩ : ∃ z, z = mN M16 := ⟨_, rfl⟩
  have H := H _ _ eq18 eM17
  refine xt_newI dX8_init_53 ac_I hn rfl hy ?_
  have ho3 : ok M17 x0 10 := by rw [eM17]; exact ok_nwA ho3
  rw [← eM17, ← eq18]
  obtain ⟨M19, eM19⟩ : ∃ z, z = wR M17 x0 5 (some q18) := ⟨_, rfl⟩
  have H := H _ eM19
  refine xt_putR dX8_init_55 (flX8_25 rfl) ft_10_5 rfl ho3.1 ho3.2 ?_
  have ho3 : ok M19 x0 10 := by rw [eM19]; exact ho3
  rw [← eM19]
  refine xt_aload_n (j := 0) dX8_init_58 rfl rfl ?_
  refine xt_sipush (v := 640) dX8_init_59 (by decide) ?_
  obtain ⟨hn, hy, H⟩ := H
  obtain ⟨M20, eM20⟩ : ∃ z, z = nwA M19 21 ((640 : Int32).toNatClampNeg) := ⟨_, rfl⟩
  obtain ⟨q21, eq21⟩ : ∃ z, z = mN M19 := ⟨_, rfl⟩
  have H := H _ _ eq21 eM20
  refine xt_newI dX8_init_62 ac_I hn rfl hy ?_
  have ho3 : ok M20 x0 10 := by rw [eM20]; exact ok_nwA ho3
  rw [← eM20, ← eq21]
  obtain ⟨M22, eM22⟩ : ∃ z, z = wR M20 x0 6 (some q21) := ⟨_, rfl⟩
  have H := H _ eM22
  refine xt_putR dX8_init_64 (flX8_28 rfl) ft_10_6 rfl ho3.1 ho3.2 ?_
  have ho3 : ok M22 x0 10 := by rw [eM22]; exact ho3
  rw [← eM22]
  refine xt_aload_n (j := 0) dX8_init_67 rfl rfl ?_
  refine xt_sipush (v := 640) dX8_init_68 (by decide) ?_
  obtain ⟨hn, hy, H⟩ := H
  obtain ⟨M23, eM23⟩ : ∃ z, z = nwA M22 21 ((640 : Int32).toNatClampNeg) := ⟨_, rfl⟩
  obtain ⟨q24, eq24⟩ : ∃ z, z = mN M22 := ⟨_, rfl⟩
  have H := H _ _ eq24 eM23
  refine xt_newI dX8_init_71 ac_I hn rfl hy ?_
  have ho3 : ok M23 x0 10 := by rw [eM23]; exact ok_nwA ho3
  rw [← eM23, ← eq24]
  obtain ⟨M25, eM25⟩ : ∃ z, z = wR M23 x0 7 (some q24) := ⟨_, rfl⟩
  have H := H _ eM25
  refine xt_putR dX8_init_73 (flX8_31 rfl) ft_10_7 rfl ho3.1 ho3.2 ?_
  have ho3 : ok M25 x0 10 := by rw [eM25]; exact ho3
  rw [← eM25]
  refine xt_aload_n (j := 0) dX8_init_76 rfl rfl ?_
  refine xt_sipush (v := 640) dX8_init_77 (by decide) ?_
  obtain ⟨hn, hy, H⟩ := H
  obtain ⟨M26, eM26⟩ : ∃ z, z = nwA M25 21 ((640 : Int32).toNatClampNeg) := ⟨_, rfl⟩
  obtain ⟨q27, eq27⟩ : ∃ z, z = mN M25 := ⟨_, rfl⟩
  have H := H _ _ eq27 eM26
  refine xt_newI dX8_init_80 ac_I hn rfl hy ?_
  have ho3 : ok M26 x0 10 := by rw [eM26]; exact ok_nwA ho3
  rw [← eM26, ← eq27]
  obtain ⟨M28, eM28⟩ : ∃ z, z = wR M26 x0 8 (some q27) := ⟨_, rfl⟩
  have H := H _ eM28
  refine xt_putR dX8_init_82 (flX8_34 rfl) ft_10_8 rfl ho3.1 ho3.2 ?_
  have ho3 : ok M28 x0 10 := by rw [eM28]; exact ho3
  rw [← eM28]
  exact xt_return dX8_init_85 rfl H
theorem KX8_init {h : Nat} {x0 : Nat} {M : Mem} {Q : Option Value → Mem → Prop} (H : DX8_init_0 h x0 M Q) : E (h + 1) mdX8_init [.ref x0] M Q := E.of (by decide) (Nat.le_of_ble_eq_true rfl) (fun _ _ _ => trivial) (VX8_init_0 H)
def DX8_begin_0 (h : Nat) (x0 : Nat) (M : Mem) (Q : Option Value → Mem → Prop) : Prop :=
  ok M x0 10 ∧ ∀ M2 : Mem, M2 = wI M x0 9 1 →
  ∀ M3 : Mem, M3 = wI M2 x0 10 0 →
  Q none M3
set_option maxRecDepth 20000 in
set_option maxHeartbeats 2000000 in
theorem VX8_begin_0 {h : Nat} {x0 : Nat} {M : Mem} {Q : Option Value → Mem → Prop} (H : DX8_begin_0 h x0 M Q) : T (h + 1) mdX8_begin 0 [(0, .ref x0)] [] M Q := by
  unfold DX8_begin_0 at H
  refine xt_aload_n (j := 0) dX8_begin_0 rfl rfl ?_
  refine xt_iconst (v := 1) dX8_begin_1 (by decide) ?_
  obtain ⟨ho1, H⟩ := H
  obtain ⟨M2, eM2⟩ : ∃ z, z = wI M x0 9 1 := ⟨_, rfl⟩
  have H := H _ eM2
  refine xt_putI dX8_begin_2 (flX8_37 rfl) ty_10_9 rfl ho1.1 ho1.2 ?_
  have ho1 : ok M2 x0 10 := by rw [eM2]; exact ho1
  rw [← eM2]
  refine xt_aload_n (j := 0) dX8_begin_5 rfl rfl ?_
  refine xt_iconst (v := 0) dX8_begin_6 (by decide) ?_
  obtain ⟨M3, eM3⟩ : ∃ z, z = wI M2 x0 10 0 := ⟨_, rfl⟩
  have H := H _ eM3
  refine xt_putI dX8_begin_7 (flX8_41 rfl) ty_10_10 rfl ho1.1 ho1.2 ?_
  have ho1 : ok M3 x0 10 := by rw [eM3]; exact ho1
  rw [← eM3]
  exact xt_return dX8_begin_10 rfl H
theorem KX8_begin {h : Nat} {x0 : Nat} {M : Mem} {Q : Option Value → Mem → Prop} (H : DX8_begin_0 h x0 M Q) : E (h + 1) mdX8_begin [.ref x0] M Q := E.of (by decide) (Nat.le_of_ble_eq_true rfl) (fun _ _ _ => trivial) (VX8_begin_0 H)
def DX8_make_102 (h : Nat) (x2 : Int32) (s0 : Nat) (s1 : Int32) (s2 : Int32) (M : Mem) (Q : Option Value → Mem → Prop) : Prop :=
  ok M s0 21 ∧ vp_in s1 (mL M s0) ∧ ∀ M2 : Mem, M2 = wAI M s0 (s1 : Int32).toNatClampNeg s2 →
  Q (some (.int x2)) M2
set_option maxRecDepth 20000 in
set_option maxHeartbeats 2000000 in
theorem VX8_make_102 {h : Nat} {x2 : Int32} {s0 : Nat} {s1 : Int32} {s2 : Int32} {M : Mem} {Q : Option Value → Mem → Prop} (H : DX8_make_102 h x2 s0 s1 s2 M Q) : T (h + 1) mdX8_make 102 [(2, .int x2)] [.int s2, .int s1, .ref s0] M Q := by
  unfold DX8_make_102 at H
  obtain ⟨ho1, H⟩ := H
  obtain ⟨hi, H⟩ := H
  obtain ⟨M2, eM2⟩ : ∃ z, z = wAI M s0 (s1 : Int32).toNatClampNeg s2 := ⟨_, rfl⟩
  have H := H _ eM2
  refine xt_iast dX8_make_102 ho1.1 ho1.2 hi ?_
  rw [← eM2]
  refine xt_iload_n (j := 0) dX8_make_103 rfl rfl ?_
  exact xt_ireturn dX8_make_104 rfl H
def DX8_make_97 (h : Nat) (x2 : Int32) (s0 : Nat) (s1 : Int32) (M : Mem) (Q : Option Value → Mem → Prop) : Prop :=
  DX8_make_102 h x2 s0 s1 1 M Q
set_option maxRecDepth 20000 in
set_option maxHeartbeats 2000000 in
theorem VX8_make_97 {h : Nat} {x2 : Int32} {s0 : Nat} {s1 : Int32} {M : Mem} {Q : Option Value → Mem → Prop} (H : DX8_make_97 h x2 s0 s1 M Q) : T (h + 1) mdX8_make 97 [(2, .int x2)] [.int s1, .ref s0] M Q := by
  unfold DX8_make_97 at H
  refine xt_iconst (v := 1) dX8_make_97 (by decide) ?_
  refine xt_goto (tgt := 102) dX8_make_98 (by decide) ?_
  exact xt_sub [0] rfl (VX8_make_102 H)
def DX8_make_0 (h : Nat) (x0 : Nat) (x1 : Int32) (M : Mem) (Q : Option Value → Mem → Prop) : Prop :=
  ok M x0 10 ∧ ((mI M x0 9) < 640 → ∀ M2 : Mem, M2 = wI M x0 9 ((mI M x0 9) + 1) →
  ∃ b3 : Nat, mR M2 x0 0 = some b3 ∧ ok M2 b3 21 ∧ vp_in (mI M x0 9) (mL M2 b3) ∧ ∀ M5 : Mem, M5 = wAI M2 b3 (mI M x0 9 : Int32).toNatClampNeg x1 →
  ∃ b6 : Nat, mR M5 x0 1 = some b6 ∧ ok M5 b6 21 ∧ vp_in (mI M x0 9) (mL M5 b6) ∧ ∀ M8 : Mem, M8 = wAI M5 b6 (mI M x0 9 : Int32).toNatClampNeg 0 →
  ∃ b9 : Nat, mR M8 x0 2 = some b9 ∧ ok M8 b9 21 ∧ vp_in (mI M x0 9) (mL M8 b9) ∧ ∀ M11 : Mem, M11 = wAI M8 b9 (mI M x0 9 : Int32).toNatClampNeg 0 →
  ∃ b12 : Nat, mR M11 x0 3 = some b12 ∧ ok M11 b12 21 ∧ vp_in (mI M x0 9) (mL M11 b12) ∧ ∀ M14 : Mem, M14 = wAI M11 b12 (mI M x0 9 : Int32).toNatClampNeg 0 →
  ∃ b15 : Nat, mR M14 x0 4 = some b15 ∧ ok M14 b15 21 ∧ vp_in (mI M x0 9) (mL M14 b15) ∧ ∀ M17 : Mem, M17 = wAI M14 b15 (mI M x0 9 : Int32).toNatClampNeg 0 →
  ∃ b18 : Nat, mR M17 x0 5 = some b18 ∧ ok M17 b18 21 ∧ vp_in (mI M x0 9) (mL M17 b18) ∧ ∀ M20 : Mem, M20 = wAI M17 b18 (mI M x0 9 : Int32).toNatClampNeg 0 →
  ∃ b21 : Nat, mR M20 x0 6 = some b21 ∧ ok M20 b21 21 ∧ vp_in (mI M x0 9) (mL M20 b21) ∧ ∀ M23 : Mem, M23 = wAI M20 b21 (mI M x0 9 : Int32).toNatClampNeg 0 →
  ∃ b24 : Nat, mR M23 x0 7 = some b24 ∧ ok M23 b24 21 ∧ vp_in (mI M x0 9) (mL M23 b24) ∧ ∀ M26 : Mem, M26 = wAI M23 b24 (mI M x0 9 : Int32).toNatClampNeg 0 →
  ∃ b27 : Nat, mR M26 x0 8 = some b27 ∧ (x1 = 0 → DX8_make_97 h (mI M x0 9) b27 (mI M x0 9) M26 Q) ∧
  (¬ (x1 = 0) → (¬ x1 = 5 → DX8_make_102 h (mI M x0 9) b27 (mI M x0 9) 0 M26 Q) ∧
  (x1 = 5 → DX8_make_97 h (mI M x0 9) b27 (mI M x0 9) M26 Q))) ∧
  (¬ ((mI M x0 9) < 640) → Q (some (.int 0)) M)
set_option maxRecDepth 20000 in
set_option maxHeartbeats 2000000 in
theorem VX8_make_0 {h : Nat} {x0 : Nat} {x1 : Int32} {M : Mem} {Q : Option Value → Mem → Prop} (H : DX8_make_0 h x0 x1 M Q) : T (h + 1) mdX8_make 0 [(0, .ref x0), (1, .int x1)] [] M Q := by
  unfold DX8_make_0 at H
  refine xt_aload_n (j := 0) dX8_make_0 rfl rfl ?_
  obtain ⟨ho1, H⟩ := H
  refine xt_getI dX8_make_1 (flX8_37 rfl) ft_10_9 ho1.1 ho1.2 ?_
  refine xt_sipush (v := 640) dX8_make_4 (by decide) ?_
  refine xt_icmp_lt (tgt := 12) dX8_make_7 (by decide) (fun hc => ?_) (fun hc => ?_)
  · have H := H.1 hc
    refine xt_aload_n (j := 0) dX8_make_12 rfl rfl ?_
    refine xt_getI dX8_make_13 (flX8_37 rfl) ft_10_9 ho1.1 ho1.2 ?_
    refine xt_istore_n (lv' := [(2, .int (mI M x0 9)), (0, .ref x0), (1, .int x1)]) dX8_make_16 rfl (by decide) rfl ?_
    refine xt_aload_n (j := 1) dX8_make_17 rfl rfl ?_
    refine xt_dup dX8_make_18 rfl ?_
    refine xt_getI dX8_make_19 (flX8_37 rfl) ft_10_9 ho1.1 ho1.2 ?_
    refine xt_iconst (v := 1) dX8_make_22 (by decide) ?_
    refine xt_iadd dX8_make_23 ?_
    obtain ⟨M2, eM2⟩ : ∃ z, z = wI M x0 9 ((mI M x0 9) + 1) := ⟨_, rfl⟩
    have H := H _ eM2
    refine xt_putI dX8_make_24 (flX8_37 rfl) ty_10_9 rfl ho1.1 ho1.2 ?_
    have ho1 : ok M2 x0 10 := by rw [eM2]; exact ho1
    rw [← eM2]
    refine xt_aload_n (j := 1) dX8_make_27 rfl rfl ?_
    obtain ⟨b3, hb, H⟩ := H
    refine xt_getR dX8_make_28 (flX8_9 rfl) ft_10_0 ho1.1 ho1.2 hb ?_
    refine xt_iload_n (j := 0) dX8_make_31 rfl rfl ?_
    refine xt_iload_n (j := 2) dX8_make_32 rfl rfl ?_
    obtain ⟨ho4, H⟩ := H
    obtain ⟨hi, H⟩ := H
    obtain ⟨M5, eM5⟩ : ∃ z, z = wAI M2 b3 (mI M x0 9 : Int32).toNatClampNeg x1 := ⟨_, rfl⟩
    have H := H _ eM5
    refine xt_iast dX8_make_33 ho4.1 ho4.2 hi ?_
    have ho1 : ok M5 x0 10 := by rw [eM5]; exact ho1
    rw [← eM5]
    refine xt_aload_n (j := 1) dX8_make_34 rfl rfl ?_
    obtain ⟨b6, hb, H⟩ := H
    refine xt_getR dX8_make_35 (flX8_13 rfl) ft_10_1 ho1.1 ho1.2 hb ?_
    refine xt_iload_n (j := 0) dX8_make_38 rfl rfl ?_
    refine xt_iconst (v := 0) dX8_make_39 (by decide) ?_
    obtain ⟨ho7, H⟩ := H
    obtain ⟨hi, H⟩ := H
    obtain ⟨M8, eM8⟩ : ∃ z, z = wAI M5 b6 (mI M x0 9 : Int32).toNatClampNeg 0 := ⟨_, rfl⟩
    have H := H _ eM8
    refine xt_iast dX8_make_40 ho7.1 ho7.2 hi ?_
    have ho1 : ok M8 x0 10 := by rw [eM8]; exact ho1
    rw [← eM8]
    refine xt_aload_n (j := 1) dX8_make_41 rfl rfl ?_
    obtain ⟨b9, hb, H⟩ := H
    refine xt_getR dX8_make_42 (flX8_16 rfl) ft_10_2 ho1.1 ho1.2 hb ?_
    refine xt_iload_n (j := 0) dX8_make_45 rfl rfl ?_
    refine xt_iconst (v := 0) dX8_make_46 (by decide) ?_
    obtain ⟨ho10, H⟩ := H
    obtain ⟨hi, H⟩ := H
    obtain ⟨M11, eM11⟩ : ∃ z, z = wAI M8 b9 (mI M x0 9 : Int32).toNatClampNeg 0 := ⟨_, rfl⟩
    have H := H _ eM11
    refine xt_iast dX8_make_47 ho10.1 ho10.2 hi ?_
    have ho1 : ok M11 x0 10 := by rw [eM11]; exact ho1
    rw [← eM11]
    refine xt_aload_n (j := 1) dX8_make_48 rfl rfl ?_
    obtain ⟨b12, hb, H⟩ := H
    refine xt_getR dX8_make_49 (flX8_19 rfl) ft_10_3 ho1.1 ho1.2 hb ?_
    refine xt_iload_n (j := 0) dX8_make_52 rfl rfl ?_
    refine xt_iconst (v := 0) dX8_make_53 (by decide) ?_
    obtain ⟨ho13, H⟩ := H
    obtain ⟨hi, H⟩ := H
    obtain ⟨M14, eM14⟩ : ∃ z, z = wAI M11 b12 (mI M x0 9 : Int32).toNatClampNeg 0 := ⟨_, rfl⟩
    have H := H _ eM14
    refine xt_iast dX8_make_54 ho13.1 ho13.2 hi ?_
    have ho1 : ok M14 x0 10 := by rw [eM14]; exact ho1
    rw [← eM14]
    refine xt_aload_n (j := 1) dX8_make_55 rfl rfl ?_
    obtain ⟨b15, hb, H⟩ := H
    refine xt_getR dX8_make_56 (flX8_22 rfl) ft_10_4 ho1.1 ho1.2 hb ?_
    refine xt_iload_n (j := 0) dX8_make_59 rfl rfl ?_
    refine xt_iconst (v := 0) dX8_make_60 (by decide) ?_
    obtain ⟨ho16, H⟩ := H
    obtain ⟨hi, H⟩ := H
    obtain ⟨M17, eM17⟩ : ∃ z, z = wAI M14 b15 (mI M x0 9 : Int32).toNatClampNeg 0 := ⟨_, rfl⟩
    have H := H _ eM17
    refine xt_iast dX8_make_61 ho16.1 ho16.2 hi ?_
    have ho1 : ok M17 x0 10 := by rw [eM17]; exact ho1
    rw [← eM17]
    refine xt_aload_n (j := 1) dX8_make_62 rfl rfl ?_
    obtain ⟨b18, hb, H⟩ := H
    refine xt_getR dX8_make_63 (flX8_25 rfl) ft_10_5 ho1.1 ho1.2 hb ?_
    refine xt_iload_n (j := 0) dX8_make_66 rfl rfl ?_
    refine xt_iconst (v := 0) dX8_make_67 (by decide) ?_
    obtain ⟨ho19, H⟩ := H
    obtain ⟨hi, H⟩ := H
    obtain ⟨M20, eM20⟩ : ∃ z, z = wAI M17 b18 (mI M x0 9 : Int32).toNatClampNeg 0 := ⟨_, rfl⟩
    have H := H _ eM20
    refine xt_iast dX8_make_68 ho19.1 ho19.2 hi ?_
    have ho1 : ok M20 x0 10 := by rw [eM20]; exact ho1
    rw [← eM20]
    refine xt_aload_n (j := 1) dX8_make_69 rfl rfl ?_
    obtain ⟨b21, hb, H⟩ := H
    refine xt_getR dX8_make_70 (flX8_28 rfl) ft_10_6 ho1.1 ho1.2 hb ?_
    refine xt_iload_n (j := 0) dX8_make_73 rfl rfl ?_
    refine xt_iconst (v := 0) dX8_make_74 (by decide) ?_
    obtain ⟨ho22, H⟩ := H
    obtain ⟨hi, H⟩ := H
    obtain ⟨M23, eM23⟩ : ∃ z, z = wAI M20 b21 (mI M x0 9 : Int32).toNatClampNeg 0 := ⟨_, rfl⟩
    have H := H _ eM23
    refine xt_iast dX8_make_75 ho22.1 ho22.2 hi ?_
    have ho1 : ok M23 x0 10 := by rw [eM23]; exact ho1
    rw [← eM23]
    refine xt_aload_n (j := 1) dX8_make_76 rfl rfl ?_
    obtain ⟨b24, hb, H⟩ := H
    refine xt_getR dX8_make_77 (flX8_31 rfl) ft_10_7 ho1.1 ho1.2 hb ?_
    refine xt_iload_n (j := 0) dX8_make_80 rfl rfl ?_
    refine xt_iconst (v := 0) dX8_make_81 (by decide) ?_
    obtain ⟨ho25, H⟩ := H
    obtain ⟨hi, H⟩ := H
    obtain ⟨M26, eM26⟩ : ∃ z, z = wAI M23 b24 (mI M x0 9 : Int32).toNatClampNeg 0 := ⟨_, rfl⟩
    have H := H _ eM26
    refine xt_iast dX8_make_82 ho25.1 ho25.2 hi ?_
    have ho1 : ok M26 x0 10 := by rw [eM26]; exact ho1
    rw [← eM26]
    refine xt_aload_n (j := 1) dX8_make_83 rfl rfl ?_
    obtain ⟨b27, hb, H⟩ := H
    refine xt_getR dX8_make_84 (flX8_34 rfl) ft_10_8 ho1.1 ho1.2 hb ?_
    refine xt_iload_n (j := 0) dX8_make_87 rfl rfl ?_
    refine xt_iload_n (j := 2) dX8_make_88 rfl rfl ?_
    refine xt_if_eq (tgt := 97) dX8_make_89 (by decide) (fun hc => ?_) (fun hc => ?_)
    · have H := H.1 hc
      exact xt_sub [0] rfl (VX8_make_97 H)
    · have H := H.2 hc
      refine xt_iload_n (j := 2) dX8_make_92 rfl rfl ?_
      refine xt_iconst (v := 5) dX8_make_93 (by decide) ?_
      refine xt_icmp_ne (tgt := 101) dX8_make_94 (by decide) (fun hc => ?_) (fun hc => ?_)
      · have H := H.1 hc
        refine xt_iconst (v := 0) dX8_make_101 (by decide) ?_
        exact xt_sub [0] rfl (VX8_make_102 H)
      · have H := H.2 hc
        exact xt_sub [0] rfl (VX8_make_97 H)
  · have H := H.2 hc
    refine xt_iconst (v := 0) dX8_make_10 (by decide) ?_
    exact xt_ireturn dX8_make_11 rfl H
theorem KX8_make {h : Nat} {x0 : Nat} {x1 : Int32} {M : Mem} {Q : Option Value → Mem → Prop} (H : DX8_make_0 h x0 x1 M Q) : E (h + 1) mdX8_make [.ref x0, .int x1] M Q := E.of (by decide) (Nat.le_of_ble_eq_true rfl) (fun _ _ _ => trivial) (VX8_make_0 H)
def DX8_hang_8 (h : Nat) (M : Mem) (Q : Option Value → Mem → Prop) : Prop :=
  Q none M
set_option maxRecDepth 20000 in
set_option maxHeartbeats 2000000 in
theorem VX8_hang_8 {h : Nat} {M : Mem} {Q : Option Value → Mem → Prop} (H : DX8_hang_8 h  M Q) : T (h + 1) mdX8_hang 8 [] [] M Q := by
  unfold DX8_hang_8 at H
  exact xt_return dX8_hang_8 rfl H
def DX8_hang_265 (h : Nat) (x0 : Nat) (x1 : Int32) (x2 : Int32) (M : Mem) (Q : Option Value → Mem → Prop) : Prop :=
  ok M x0 10 ∧ ∃ b2 : Nat, mR M x0 2 = some b2 ∧ ok M b2 21 ∧ vp_in x1 (mL M b2) ∧ ∀ M4 : Mem, M4 = wAI M b2 (x1 : Int32).toNatClampNeg x2 →
  Q none M4
set_option maxRecDepth 20000 in
set_option maxHeartbeats 2000000 in
theorem VX8_hang_265 {h : Nat} {x0 : Nat} {x1 : Int32} {x2 : Int32} {M : Mem} {Q : Option Value → Mem → Prop} (H : DX8_hang_265 h x0 x1 x2 M Q) : T (h + 1) mdX8_hang 265 [(0, .ref x0), (1, .int x1), (2, .int x2)] [] M Q := by
  unfold DX8_hang_265 at H
  refine xt_aload_n (j := 0) dX8_hang_265 rfl rfl ?_
  obtain ⟨ho1, H⟩ := H
  obtain ⟨b2, hb, H⟩ := H
  refine xt_getR dX8_hang_266 (flX8_16 rfl) ft_10_2 ho1.1 ho1.2 hb ?_
  refine xt_iload_n (j := 1) dX8_hang_269 rfl rfl ?_
  refine xt_iload_n (j := 2) dX8_hang_270 rfl rfl ?_
  obtain ⟨ho3, H⟩ := H
  obtain ⟨hi, H⟩ := H
  obtain ⟨M4, eM4⟩ : ∃ z, z = wAI M b2 (x1 : Int32).toNatClampNeg x2 := ⟨_, rfl⟩
  have H := H _ eM4
  refine xt_iast dX8_hang_271 ho3.1 ho3.2 hi ?_
  have ho1 : ok M4 x0 10 := by rw [eM4]; exact ho1
  rw [← eM4]
  exact xt_return dX8_hang_272 rfl H
def DX8_hang_216 (h : Nat) (x0 : Nat) (x1 : Int32) (x2 : Int32) (x5 : Int32) (M : Mem) (Q : Option Value → Mem → Prop) : Prop :=
  ok M x0 10 ∧ ∃ b2 : Nat, mR M x0 7 = some b2 ∧ ok M b2 21 ∧ vp_in x1 (mL M b2) ∧ ∃ b4 : Nat, mR M x0 7 = some b4 ∧ ok M b4 21 ∧ vp_in x2 (mL M b4) ∧ vp_in x1 (mL M b2) ∧ ∀ M6 : Mem, M6 = wAI M b2 (x1 : Int32).toNatClampNeg ((mAI M b2 (x1 : Int32).toNatClampNeg) ||| (mAI M b4 (x2 : Int32).toNatClampNeg)) →
  ∃ b7 : Nat, mR M6 x0 4 = some b7 ∧ ok M6 b7 21 ∧ vp_in x2 (mL M6 b7) ∧ ∀ M9 : Mem, M9 = wAI M6 b7 (x2 : Int32).toNatClampNeg x1 →
  (x5 = 0 → ∃ b10 : Nat, mR M9 x0 3 = some b10 ∧ ∃ b11 : Nat, mR M9 x0 2 = some b11 ∧ ok M9 b11 21 ∧ vp_in x1 (mL M9 b11) ∧ ok M9 b10 21 ∧ vp_in (mAI M9 b11 (x1 : Int32).toNatClampNeg) (mL M9 b10) ∧ ∀ M14 : Mem, M14 = wAI M9 b10 (mAI M9 b11 (x1 : Int32).toNatClampNeg : Int32).toNatClampNeg x2 →
  DX8_hang_265 h x0 x1 x2 M14 Q) ∧
  (¬ (x5 = 0) → ∃ b15 : Nat, mR M9 x0 1 = some b15 ∧ ok M9 b15 21 ∧ vp_in x1 (mL M9 b15) ∧ ∀ M17 : Mem, M17 = wAI M9 b15 (x1 : Int32).toNatClampNeg x2 →
  DX8_hang_265 h x0 x1 x2 M17 Q)
set_option maxRecDepth 20000 in
set_option maxHeartbeats 2000000 in
theorem VX8_hang_216 {h : Nat} {x0 : Nat} {x1 : Int32} {x2 : Int32} {x5 : Int32} {M : Mem} {Q : Option Value → Mem → Prop} (H : DX8_hang_216 h x0 x1 x2 x5 M Q) : T (h + 1) mdX8_hang 216 [(0, .ref x0), (1, .int x1), (2, .int x2), (5, .int x5)] [] M Q := by
  unfold DX8_hang_216 at H
  refine xt_aload_n (j := 0) dX8_hang_216 rfl rfl ?_
  obtain ⟨ho1, H⟩ := H
  obtain ⟨b2, hb, H⟩ := H
  refine xt_getR dX8_hang_217 (flX8_31 rfl) ft_10_7 ho1.1 ho1.2 hb ?_
  refine xt_iload_n (j := 1) dX8_hang_220 rfl rfl ?_
  refine xt_dup2 dX8_hang_221 rfl rfl ?_
  obtain ⟨ho3, H⟩ := H
  obtain ⟨hi, H⟩ := H
  refine xt_iald dX8_hang_222 ho3.1 ho3.2 hi ?_
  refine xt_aload_n (j := 0) dX8_hang_223 rfl rfl ?_
  obtain ⟨b4, hb, H⟩ := H
  refine xt_getR dX8_hang_224 (flX8_31 rfl) ft_10_7 ho1.1 ho1.2 hb ?_
  refine xt_iload_n (j := 2) dX8_hang_227 rfl rfl ?_
  obtain ⟨ho5, H⟩ := H
  obtain ⟨hi, H⟩ := H
  refine xt_iald dX8_hang_228 ho5.1 ho5.2 hi ?_
  refine xt_ior dX8_hang_229 ?_
  obtain ⟨hi, H⟩ := H
  obtain ⟨M6, eM6⟩ : ∃ z, z = wAI M b2 (x1 : Int32).toNatClampNeg ((mAI M b2 (x1 : Int32).toNatClampNeg) ||| (mAI M b4 (x2 : Int32).toNatClampNeg)) := ⟨_, rfl⟩
  have H := H _ eM6
  refine xt_iast dX8_hang_230 ho3.1 ho3.2 hi ?_
  have ho1 : ok M6 x0 10 := by rw [eM6]; exact ho1
  rw [← eM6]
  refine xt_aload_n (j := 0) dX8_hang_231 rfl rfl ?_
  obtain ⟨b7, hb, H⟩ := H
  refine xt_getR dX8_hang_232 (flX8_22 rfl) ft_10_4 ho1.1 ho1.2 hb ?_
  refine xt_iload_n (j := 2) dX8_hang_235 rfl rfl ?_
  refine xt_iload_n (j := 1) dX8_hang_236 rfl rfl ?_
  obtain ⟨ho8, H⟩ := H
  obtain ⟨hi, H⟩ := H
  obtain ⟨M9, eM9⟩ : ∃ z, z = wAI M6 b7 (x2 : Int32).toNatClampNeg x1 := ⟨_, rfl⟩
  have H := H _ eM9
  refine xt_iast dX8_hang_237 ho8.1 ho8.2 hi ?_
  have ho1 : ok M9 x0 10 := by rw [eM9]; exact ho1
  rw [← eM9]
  refine xt_iload (j := 3) dX8_hang_238 rfl ?_
  refine xt_if_eq (tgt := 253) dX8_hang_240 (by decide) (fun hc => ?_) (fun hc => ?_)
  · have H := H.1 hc
    refine xt_aload_n (j := 0) dX8_hang_253 rfl rfl ?_
    obtain ⟨b10, hb, H⟩ := H
    refine xt_getR dX8_hang_254 (flX8_19 rfl) ft_10_3 ho1.1 ho1.2 hb ?_
    refine xt_aload_n (j := 0) dX8_hang_257 rfl rfl ?_
    obtain ⟨b11, hb, H⟩ := H
    refine xt_getR dX8_hang_258 (flX8_16 rfl) ft_10_2 ho1.1 ho1.2 hb ?_
    refine xt_iload_n (j := 1) dX8_hang_261 rfl rfl ?_
    obtain ⟨ho12, H⟩ := H
    obtain ⟨hi, H⟩ := H
    refine xt_iald dX8_hang_262 ho12.1 ho12.2 hi ?_
    refine xt_iload_n (j := 2) dX8_hang_263 rfl rfl ?_
    obtain ⟨ho13, H⟩ := H
    obtain ⟨hi, H⟩ := H
    obtain ⟨M14, eM14⟩ : ∃ z, z = wAI M9 b10 (mAI M9 b11 (x1 : Int32).toNatClampNeg : Int32).toNatClampNeg x2 := ⟨_, rfl⟩
    have H := H _ eM14
    refine xt_iast dX8_hang_264 ho13.1 ho13.2 hi ?_
    have ho1 : ok M14 x0 10 := by rw [eM14]; exact ho1
    rw [← eM14]
    exact xt_sub [0, 1, 2] rfl (VX8_hang_265 H)
  · have H := H.2 hc
    refine xt_aload_n (j := 0) dX8_hang_243 rfl rfl ?_
    obtain ⟨b15, hb, H⟩ := H
    refine xt_getR dX8_hang_244 (flX8_13 rfl) ft_10_1 ho1.1 ho1.2 hb ?_
    refine xt_iload_n (j := 1) dX8_hang_247 rfl rfl ?_
    refine xt_iload_n (j := 2) dX8_hang_248 rfl rfl ?_
    obtain ⟨ho16, H⟩ := H
    obtain ⟨hi, H⟩ := H
    obtain ⟨M17, eM17⟩ : ∃ z, z = wAI M9 b15 (x1 : Int32).toNatClampNeg x2 := ⟨_, rfl⟩
    have H := H _ eM17
    refine xt_iast dX8_hang_249 ho16.1 ho16.2 hi ?_
    have ho1 : ok M17 x0 10 := by rw [eM17]; exact ho1
    rw [← eM17]
    refine xt_goto (tgt := 265) dX8_hang_250 (by decide) ?_
    exact xt_sub [0, 1, 2] rfl (VX8_hang_265 H)
def DX8_hang_102 (h : Nat) (x0 : Nat) (x1 : Int32) (x2 : Int32) (x5 : Int32) (s0 : Nat) (s1 : Int32) (s2 : Int32) (M : Mem) (Q : Option Value → Mem → Prop) : Prop :=
  ok M s0 21 ∧ vp_in s1 (mL M s0) ∧ ∀ M2 : Mem, M2 = wAI M s0 (s1 : Int32).toNatClampNeg s2 →
  DX8_hang_216 h x0 x1 x2 x5 M2 Q
set_option maxRecDepth 20000 in
set_option maxHeartbeats 2000000 in
theorem VX8_hang_102 {h : Nat} {x0 : Nat} {x1 : Int32} {x2 : Int32} {x5 : Int32} {s0 : Nat} {s1 : Int32} {s2 : Int32} {M : Mem} {Q : Option Value → Mem → Prop} (H : DX8_hang_102 h x0 x1 x2 x5 s0 s1 s2 M Q) : T (h + 1) mdX8_hang 102 [(0, .ref x0), (1, .int x1), (2, .int x2), (5, .int x5)] [.int s2, .int s1, .ref s0] M Q := by
  unfold DX8_hang_102 at H
  obtain ⟨ho1, H⟩ := H
  obtain ⟨hi, H⟩ := H
  obtain ⟨M2, eM2⟩ : ∃ z, z = wAI M s0 (s1 : Int32).toNatClampNeg s2 := ⟨_, rfl⟩
  have H := H _ eM2
  refine xt_iast dX8_hang_102 ho1.1 ho1.2 hi ?_
  rw [← eM2]
  refine xt_goto (tgt := 216) dX8_hang_103 (by decide) ?_
  exact xt_sub [0, 1, 2, 3] rfl (VX8_hang_216 H)
def DX8_hang_174 (h : Nat) (x0 : Nat) (x1 : Int32) (x2 : Int32) (x5 : Int32) (s0 : Nat) (s1 : Int32) (s2 : Int32) (M : Mem) (Q : Option Value → Mem → Prop) : Prop :=
  ok M s0 21 ∧ vp_in s1 (mL M s0) ∧ ∀ M2 : Mem, M2 = wAI M s0 (s1 : Int32).toNatClampNeg s2 →
  DX8_hang_216 h x0 x1 x2 x5 M2 Q
set_option maxRecDepth 20000 in
set_option maxHeartbeats 2000000 in
theorem VX8_hang_174 {h : Nat} {x0 : Nat} {x1 : Int32} {x2 : Int32} {x5 : Int32} {s0 : Nat} {s1 : Int32} {s2 : Int32} {M : Mem} {Q : Option Value → Mem → Prop} (H : DX8_hang_174 h x0 x1 x2 x5 s0 s1 s2 M Q) : T (h + 1) mdX8_hang 174 [(0, .ref x0), (1, .int x1), (2, .int x2), (5, .int x5)] [.int s2, .int s1, .ref s0] M Q := by
  unfold DX8_hang_174 at H
  obtain ⟨ho1, H⟩ := H
  obtain ⟨hi, H⟩ := H
  obtain ⟨M2, eM2⟩ : ∃ z, z = wAI M s0 (s1 : Int32).toNatClampNeg s2 := ⟨_, rfl⟩
  have H := H _ eM2
  refine xt_iast dX8_hang_174 ho1.1 ho1.2 hi ?_
  rw [← eM2]
  refine xt_goto (tgt := 216) dX8_hang_175 (by decide) ?_
  exact xt_sub [0, 1, 2, 3] rfl (VX8_hang_216 H)
def DX8_hang_155 (h : Nat) (x0 : Nat) (x1 : Int32) (x2 : Int32) (x4 : Int32) (x5 : Int32) (s0 : Int32) (M : Mem) (Q : Option Value → Mem → Prop) : Prop :=
  ok M x0 10 ∧ ∃ b2 : Nat, mR M x0 8 = some b2 ∧ (x5 = 0 → DX8_hang_174 h x0 x1 x2 x5 b2 x1 s0 M Q) ∧
  (¬ (x5 = 0) → DX8_hang_174 h x0 x1 x2 x5 b2 x1 x4 M Q)
set_option maxRecDepth 20000 in
set_option maxHeartbeats 2000000 in
theorem VX8_hang_155 {h : Nat} {x0 : Nat} {x1 : Int32} {x2 : Int32} {x4 : Int32} {x5 : Int32} {s0 : Int32} {M : Mem} {Q : Option Value → Mem → Prop} (H : DX8_hang_155 h x0 x1 x2 x4 x5 s0 M Q) : T (h + 1) mdX8_hang 155 [(0, .ref x0), (1, .int x1), (2, .int x2), (4, .int x4), (5, .int x5)] [.int s0] M Q := by
  unfold DX8_hang_155 at H
  refine xt_istore (lv' := [(7, .int s0), (0, .ref x0), (1, .int x1), (2, .int x2), (4, .int x4), (5, .int x5)]) dX8_hang_155 (by decide) rfl ?_
  refine xt_aload_n (j := 1) dX8_hang_157 rfl rfl ?_
  obtain ⟨ho1, H⟩ := H
  obtain ⟨b2, hb, H⟩ := H
  refine xt_getR dX8_hang_158 (flX8_34 rfl) ft_10_8 ho1.1 ho1.2 hb ?_
  refine xt_iload_n (j := 2) dX8_hang_161 rfl rfl ?_
  refine xt_iload (j := 5) dX8_hang_162 rfl ?_
  refine xt_if_eq (tgt := 172) dX8_hang_164 (by decide) (fun hc => ?_) (fun hc => ?_)
  · have H := H.1 hc
    refine xt_iload (j := 0) dX8_hang_172 rfl ?_
    exact xt_sub [1, 2, 3, 5] rfl (VX8_hang_174 H)
  · have H := H.2 hc
    refine xt_iload (j := 4) dX8_hang_167 rfl ?_
    refine xt_goto (tgt := 174) dX8_hang_169 (by decide) ?_
    exact xt_sub [1, 2, 3, 5] rfl (VX8_hang_174 H)
def DX8_hang_143 (h : Nat) (x0 : Nat) (x1 : Int32) (x2 : Int32) (x4 : Int32) (x5 : Int32) (M : Mem) (Q : Option Value → Mem → Prop) : Prop :=
  DX8_hang_155 h x0 x1 x2 x4 x5 0 M Q
set_option maxRecDepth 20000 in
set_option maxHeartbeats 2000000 in
theorem VX8_hang_143 {h : Nat} {x0 : Nat} {x1 : Int32} {x2 : Int32} {x4 : Int32} {x5 : Int32} {M : Mem} {Q : Option Value → Mem → Prop} (H : DX8_hang_143 h x0 x1 x2 x4 x5 M Q) : T (h + 1) mdX8_hang 143 [(0, .ref x0), (1, .int x1), (2, .int x2), (4, .int x4), (5, .int x5)] [] M Q := by
  unfold DX8_hang_143 at H
  refine xt_iconst (v := 0) dX8_hang_143 (by decide) ?_
  refine xt_goto (tgt := 155) dX8_hang_144 (by decide) ?_
  exact xt_sub [0, 1, 2, 3, 4] rfl (VX8_hang_155 H)
def DX8_hang_38 (h : Nat) (x0 : Nat) (x1 : Int32) (x2 : Int32) (x3 : Int32) (x4 : Int32) (s0 : Int32) (M : Mem) (Q : Option Value → Mem → Prop) : Prop :=
  ok M x0 10 ∧ ∃ b2 : Nat, mR M x0 0 = some b2 ∧ ok M b2 21 ∧ vp_in x1 (mL M b2) ∧ ((mAI M b2 (x1 : Int32).toNatClampNeg) = 5 → ∃ b4 : Nat, mR M x0 8 = some b4 ∧ (¬ (x3 &&& 1) = 0 → DX8_hang_102 h x0 x1 x2 s0 b4 x1 ((x3 &&& (-2)) ||| x4) M Q) ∧
  ((x3 &&& 1) = 0 → DX8_hang_102 h x0 x1 x2 s0 b4 x1 x3 M Q)) ∧
  ((mAI M b2 (x1 : Int32).toNatClampNeg) = 6 → ∃ b5 : Nat, mR M x0 8 = some b5 ∧ ok M b5 21 ∧ vp_in x1 (mL M b5) ∧ ∀ M7 : Mem, M7 = wAI M b5 (x1 : Int32).toNatClampNeg (x4 &&& (-2)) →
  DX8_hang_216 h x0 x1 x2 s0 M7 Q) ∧
  ((mAI M b2 (x1 : Int32).toNatClampNeg) = 7 → ∃ b8 : Nat, mR M x0 8 = some b8 ∧ ok M b8 21 ∧ vp_in x1 (mL M b8) ∧ ∀ M10 : Mem, M10 = wAI M b8 (x1 : Int32).toNatClampNeg (x3 ||| x4) →
  DX8_hang_216 h x0 x1 x2 s0 M10 Q) ∧
  ((mAI M b2 (x1 : Int32).toNatClampNeg) = 8 → E h mdJ6_lowestOneBit_0f7a4 [.int x3] M (fun r M11 => mE M M11 → ∃ r12 : Int32, r = some (.int r12) ∧ E h mdJ6_lowestOneBit_0f7a4 [.int x4] M11 (fun r M13 => mE M11 M13 → ∃ r14 : Int32, r = some (.int r14) ∧ (x3 = 0 → DX8_hang_143 h x0 x1 x2 x4 s0 M13 Q) ∧
  (¬ (x3 = 0) → (¬ x4 = 0 → DX8_hang_155 h x0 x1 x2 x4 s0 ((x3 ||| x4) &&& (-(if r12 < r14 then r14 else r12))) M13 Q) ∧
  (x4 = 0 → DX8_hang_143 h x0 x1 x2 x4 s0 M13 Q))))) ∧
  ((mAI M b2 (x1 : Int32).toNatClampNeg) = 9 → ∃ b15 : Nat, mR M x0 8 = some b15 ∧ ok M b15 21 ∧ vp_in x1 (mL M b15) ∧ ∀ M17 : Mem, M17 = wAI M b15 (x1 : Int32).toNatClampNeg (((x4 &&& 3) ||| ((((x4 : Int32).toUInt32 >>> ((2 : Int32).toUInt32 &&& Int32.toUInt32 31)).toInt32) &&& 1)) ||| ((((x4 : Int32).toUInt32 >>> ((1 : Int32).toUInt32 &&& Int32.toUInt32 31)).toInt32) &&& (-4))) →
  DX8_hang_216 h x0 x1 x2 s0 M17 Q) ∧
  (((mAI M b2 (x1 : Int32).toNatClampNeg : Int32).toInt < 5 ∨ 9 < (mAI M b2 (x1 : Int32).toNatClampNeg : Int32).toInt) → ∃ b18 : Nat, mR M x0 8 = some b18 ∧ ok M b18 21 ∧ vp_in x1 (mL M b18) ∧ ∀ M20 : Mem, M20 = wAI M b18 (x1 : Int32).toNatClampNeg (x3 ||| x4) →
  DX8_hang_216 h x0 x1 x2 s0 M20 Q)
set_option maxRecDepth 20000 in
set_option maxHeartbeats 2000000 in
theorem VX8_hang_38 {h : Nat} {x0 : Nat} {x1 : Int32} {x2 : Int32} {x3 : Int32} {x4 : Int32} {s0 : Int32} {M : Mem} {Q : Option Value → Mem → Prop} (H : DX8_hang_38 h x0 x1 x2 x3 x4 s0 M Q) : T (h + 1) mdX8_hang 38 [(0, .ref x0), (1, .int x1), (2, .int x2), (3, .int x3), (4, .int x4)] [.int s0] M Q := by
  unfold DX8_hang_38 at H
  refine xt_istore (lv' := [(5, .int s0), (0, .ref x0), (1, .int x1), (2, .int x2), (3, .int x3), (4, .int x4)]) dX8_hang_38 (by decide) rfl ?_
  refine xt_aload_n (j := 1) dX8_hang_40 rfl rfl ?_
  obtain ⟨ho1, H⟩ := H
  obtain ⟨b2, hb, H⟩ := H
  refine xt_getR dX8_hang_41 (flX8_9 rfl) ft_10_0 ho1.1 ho1.2 hb ?_
  refine xt_iload_n (j := 2) dX8_hang_44 rfl rfl ?_
  obtain ⟨ho3, H⟩ := H
  obtain ⟨hi, H⟩ := H
  refine xt_iald dX8_hang_45 ho3.1 ho3.2 hi ?_
  by_cases hsw : (mAI M b2 (x1 : Int32).toNatClampNeg : Int32).toInt < 5 ∨ 9 < (mAI M b2 (x1 : Int32).toNatClampNeg : Int32).toInt
  · refine xt_tableOut (tgt := 206) dX8_hang_46 hsw (by decide) ?_
    have H := H.2.2.2.2.2 hsw
    refine xt_aload_n (j := 1) dX8_hang_206 rfl rfl ?_
    obtain ⟨b18, hb, H⟩ := H
    refine xt_getR dX8_hang_207 (flX8_34 rfl) ft_10_8 ho1.1 ho1.2 hb ?_
    refine xt_iload_n (j := 2) dX8_hang_210 rfl rfl ?_
    refine xt_iload_n (j := 4) dX8_hang_211 rfl rfl ?_
    refine xt_iload (j := 5) dX8_hang_212 rfl ?_
    refine xt_ior dX8_hang_214 ?_
    obtain ⟨ho19, H⟩ := H
    obtain ⟨hi, H⟩ := H
    obtain ⟨M20, eM20⟩ : ∃ z, z = wAI M b18 (x1 : Int32).toNatClampNeg (x3 ||| x4) := ⟨_, rfl⟩
    have H := H _ eM20
    refine xt_iast dX8_hang_215 ho19.1 ho19.2 hi ?_
    have ho1 : ok M20 x0 10 := by rw [eM20]; exact ho1
    rw [← eM20]
    exact xt_sub [1, 2, 3, 0] rfl (VX8_hang_216 H)
  · have hsw2 : (mAI M b2 (x1 : Int32).toNatClampNeg : Int32).toInt = 5 ∨ (mAI M b2 (x1 : Int32).toNatClampNeg : Int32).toInt = 6 ∨ (mAI M b2 (x1 : Int32).toNatClampNeg : Int32).toInt = 7 ∨ (mAI M b2 (x1 : Int32).toNatClampNeg : Int32).toInt = 8 ∨ (mAI M b2 (x1 : Int32).toNatClampNeg : Int32).toInt = 9 := by omega
    rcases hsw2 with hv | hv | hv | hv | hv
    · have hx : (mAI M b2 (x1 : Int32).toNatClampNeg) = 5 := i32_ofInt hv
      have H := H.1 hx
      refine xt_tableIn (tgt := 80) dX8_hang_46 (by omega) (by omega) (by rw [hv]; rfl) (by decide) ?_
      refine xt_aload_n (j := 1) dX8_hang_80 rfl rfl ?_
      obtain ⟨b4, hb, H⟩ := H
      refine xt_getR dX8_hang_81 (flX8_34 rfl) ft_10_8 ho1.1 ho1.2 hb ?_
      refine xt_iload_n (j := 2) dX8_hang_84 rfl rfl ?_
      refine xt_iload_n (j := 4) dX8_hang_85 rfl rfl ?_
      refine xt_iconst (v := 1) dX8_hang_86 (by decide) ?_
      refine xt_iand dX8_hang_87 ?_
      refine xt_if_ne (tgt := 95) dX8_hang_88 (by decide) (fun hc => ?_) (fun hc => ?_)
      · have H := H.1 hc
        refine xt_iload_n (j := 4) dX8_hang_95 rfl rfl ?_
        refine xt_bipush (v := -2) dX8_hang_96 (by decide) ?_
        refine xt_iand dX8_hang_98 ?_
        refine xt_iload (j := 5) dX8_hang_99 rfl ?_
        refine xt_ior dX8_hang_101 ?_
        exact xt_sub [1, 2, 3, 0] rfl (VX8_hang_102 H)
      · have H := H.2 hc
        refine xt_iload_n (j := 4) dX8_hang_91 rfl rfl ?_
        refine xt_goto (tgt := 102) dX8_hang_92 (by decide) ?_
        exact xt_sub [1, 2, 3, 0] rfl (VX8_hang_102 H)
    · have hx : (mAI M b2 (x1 : Int32).toNatClampNeg) = 6 := i32_ofInt hv
      have H := H.2.1 hx
      refine xt_tableIn (tgt := 106) dX8_hang_46 (by omega) (by omega) (by rw [hv]; rfl) (by decide) ?_
      refine xt_aload_n (j := 1) dX8_hang_106 rfl rfl ?_
      obtain ⟨b5, hb, H⟩ := H
      refine xt_getR dX8_hang_107 (flX8_34 rfl) ft_10_8 ho1.1 ho1.2 hb ?_
      refine xt_iload_n (j := 2) dX8_hang_110 rfl rfl ?_
      refine xt_iload (j := 5) dX8_hang_111 rfl ?_
      refine xt_bipush (v := -2) dX8_hang_113 (by decide) ?_
      refine xt_iand dX8_hang_115 ?_
      obtain ⟨ho6, H⟩ := H
      obtain ⟨hi, H⟩ := H
      obtain ⟨M7, eM7⟩ : ∃ z, z = wAI M b5 (x1 : Int32).toNatClampNeg (x4 &&& (-2)) := ⟨_, rfl⟩
      have H := H _ eM7
      refine xt_iast dX8_hang_116 ho6.1 ho6.2 hi ?_
      have ho1 : ok M7 x0 10 := by rw [eM7]; exact ho1
      rw [← eM7]
      refine xt_goto (tgt := 216) dX8_hang_117 (by decide) ?_
      exact xt_sub [1, 2, 3, 0] rfl (VX8_hang_216 H)
    · have hx : (mAI M b2 (x1 : Int32).toNatClampNeg) = 7 := i32_ofInt hv
      have H := H.2.2.1 hx
      refine xt_tableIn (tgt := 206) dX8_hang_46 (by omega) (by omega) (by rw [hv]; rfl) (by decide) ?_
      refine xt_aload_n (j := 1) dX8_hang_206 rfl rfl ?_
      obtain ⟨b8, hb, H⟩ := H
      refine xt_getR dX8_hang_207 (flX8_34 rfl) ft_10_8 ho1.1 ho1.2 hb ?_
      refine xt_iload_n (j := 2) dX8_hang_210 rfl rfl ?_
      refine xt_iload_n (j := 4) dX8_hang_211 rfl rfl ?_
      refine xt_iload (j := 5) dX8_hang_212 rfl ?_
      refine xt_ior dX8_hang_214 ?_
      obtain ⟨ho9, H⟩ := H
      obtain ⟨hi, H⟩ := H
      obtain ⟨M10, eM10⟩ : ∃ z, z = wAI M b8 (x1 : Int32).toNatClampNeg (x3 ||| x4) := ⟨_, rfl⟩
      have H := H _ eM10
      refine xt_iast dX8_hang_215 ho9.1 ho9.2 hi ?_
      have ho1 : ok M10 x0 10 := by rw [eM10]; exact ho1
      rw [← eM10]
      exact xt_sub [1, 2, 3, 0] rfl (VX8_hang_216 H)
    · have hx : (mAI M b2 (x1 : Int32).toNatClampNeg) = 8 := i32_ofInt hv
      have H := H.2.2.2.1 hx
      refine xt_tableIn (tgt := 120) dX8_hang_46 (by omega) (by omega) (by rw [hv]; rfl) (by decide) ?_
      refine xt_iload_n (j := 4) dX8_hang_120 rfl rfl ?_
      refine xt_callS (h2 := h) (as := [.int x3]) (st := []) dX8_hang_121 (mlX8_46 rfl) rfl (by first | decide | (simp [Value.category]; done)) (Nat.le_refl _) H (fun r M11 HH hE => ?_)
      obtain ⟨r12, hr, H⟩ := HH hE
      subst hr
      have ho1 := ok_E ho1 hE
      show T _ _ _ _ [.int r12] _ _
      refine xt_iload (j := 5) dX8_hang_124 rfl ?_
      refine xt_callS (h2 := h) (as := [.int x4]) (st := [.int r12]) dX8_hang_126 (mlX8_46 rfl) rfl (by first | decide | (simp [Value.category]; done)) (Nat.le_refl _) H (fun r M13 HH hE => ?_)
      obtain ⟨r14, hr, H⟩ := HH hE
      subst hr
      have ho1 := ok_E ho1 hE
      show T _ _ _ _ [.int r14, .int r12] _ _
      refine xt_mmax dX8_hang_129 (mmX8_52 rfl) (Nat.succ_le_succ (Nat.zero_le _)) (by first | decide | (simp [Value.category]; done)) ?_
      refine xt_istore (lv' := [(6, .int (if r12 < r14 then r14 else r12)), (5, .int s0), (0, .ref x0), (1, .int x1), (2, .int x2), (3, .int x3), (4, .int x4)]) dX8_hang_132 (by decide) rfl ?_
      refine xt_iload_n (j := 5) dX8_hang_134 rfl rfl ?_
      refine xt_if_eq (tgt := 143) dX8_hang_135 (by decide) (fun hc => ?_) (fun hc => ?_)
      · have H := H.1 hc
        exact xt_sub [2, 3, 4, 6, 1] rfl (VX8_hang_143 H)
      · have H := H.2 hc
        refine xt_iload (j := 6) dX8_hang_138 rfl ?_
        refine xt_if_ne (tgt := 147) dX8_hang_140 (by decide) (fun hc => ?_) (fun hc => ?_)
        · have H := H.1 hc
          refine xt_iload_n (j := 5) dX8_hang_147 rfl rfl ?_
          refine xt_iload (j := 6) dX8_hang_148 rfl ?_
          refine xt_ior dX8_hang_150 ?_
          refine xt_iload (j := 0) dX8_hang_151 rfl ?_
          refine xt_ineg dX8_hang_153 ?_
          refine xt_iand dX8_hang_154 ?_
          exact xt_sub [2, 3, 4, 6, 1] rfl (VX8_hang_155 H)
        · have H := H.2 hc
          exact xt_sub [2, 3, 4, 6, 1] rfl (VX8_hang_143 H)
    · have hx : (mAI M b2 (x1 : Int32).toNatClampNeg) = 9 := i32_ofInt hv
      have H := H.2.2.2.2.1 hx
      refine xt_tableIn (tgt := 178) dX8_hang_46 (by omega) (by omega) (by rw [hv]; rfl) (by decide) ?_
      refine xt_aload_n (j := 1) dX8_hang_178 rfl rfl ?_
      obtain ⟨b15, hb, H⟩ := H
      refine xt_getR dX8_hang_179 (flX8_34 rfl) ft_10_8 ho1.1 ho1.2 hb ?_
      refine xt_iload_n (j := 2) dX8_hang_182 rfl rfl ?_
      refine xt_iload (j := 5) dX8_hang_183 rfl ?_
      refine xt_iconst (v := 3) dX8_hang_185 (by decide) ?_
      refine xt_iand dX8_hang_186 ?_
      refine xt_iload (j := 5) dX8_hang_187 rfl ?_
      refine xt_iconst (v := 2) dX8_hang_189 (by decide) ?_
      refine xt_iushr dX8_hang_190 ?_
      refine xt_iconst (v := 1) dX8_hang_191 (by decide) ?_
      refine xt_iand dX8_hang_192 ?_
      refine xt_ior dX8_hang_193 ?_
      refine xt_iload (j := 5) dX8_hang_194 rfl ?_
      refine xt_iconst (v := 1) dX8_hang_196 (by decide) ?_
      refine xt_iushr dX8_hang_197 ?_
      refine xt_bipush (v := -4) dX8_hang_198 (by decide) ?_
      refine xt_iand dX8_hang_200 ?_
      refine xt_ior dX8_hang_201 ?_
      obtain ⟨ho16, H⟩ := H
      obtain ⟨hi, H⟩ := H
      obtain ⟨M17, eM17⟩ : ∃ z, z = wAI M b15 (x1 : Int32).toNatClampNeg (((x4 &&& 3) ||| ((((x4 : Int32).toUInt32 >>> ((2 : Int32).toUInt32 &&& Int32.toUInt32 31)).toInt32) &&& 1)) ||| ((((x4 : Int32).toUInt32 >>> ((1 : Int32).toUInt32 &&& Int32.toUInt32 31)).toInt32) &&& (-4))) := ⟨_, rfl⟩
      have H := H _ eM17
      refine xt_iast dX8_hang_202 ho16.1 ho16.2 hi ?_
      have ho1 : ok M17 x0 10 := by rw [eM17]; exact ho1
      rw [← eM17]
      refine xt_goto (tgt := 216) dX8_hang_203 (by decide) ?_
      exact xt_sub [1, 2, 3, 0] rfl (VX8_hang_216 H)
def DX8_hang_0 (h : Nat) (x0 : Nat) (x1 : Int32) (x2 : Int32) (M : Mem) (Q : Option Value → Mem → Prop) : Prop :=
  (x1 = 0 → DX8_hang_8 h  M Q) ∧
  (¬ (x1 = 0) → (¬ x2 = 0 → ok M x0 10 ∧ ∃ b2 : Nat, mR M x0 8 = some b2 ∧ ok M b2 21 ∧ vp_in x1 (mL M b2) ∧ ∃ b4 : Nat, mR M x0 8 = some b4 ∧ ok M b4 21 ∧ vp_in x2 (mL M b4) ∧ ∃ b6 : Nat, mR M x0 1 = some b6 ∧ ok M b6 21 ∧ vp_in x1 (mL M b6) ∧ (¬ (mAI M b6 (x1 : Int32).toNatClampNeg) = 0 → DX8_hang_38 h x0 x1 x2 (mAI M b2 (x1 : Int32).toNatClampNeg) (mAI M b4 (x2 : Int32).toNatClampNeg) 0 M Q) ∧
  ((mAI M b6 (x1 : Int32).toNatClampNeg) = 0 → DX8_hang_38 h x0 x1 x2 (mAI M b2 (x1 : Int32).toNatClampNeg) (mAI M b4 (x2 : Int32).toNatClampNeg) 1 M Q)) ∧
  (x2 = 0 → DX8_hang_8 h  M Q))
set_option maxRecDepth 20000 in
set_option maxHeartbeats 2000000 in
theorem VX8_hang_0 {h : Nat} {x0 : Nat} {x1 : Int32} {x2 : Int32} {M : Mem} {Q : Option Value → Mem → Prop} (H : DX8_hang_0 h x0 x1 x2 M Q) : T (h + 1) mdX8_hang 0 [(0, .ref x0), (1, .int x1), (2, .int x2)] [] M Q := by
  unfold DX8_hang_0 at H
  refine xt_iload_n (j := 1) dX8_hang_0 rfl rfl ?_
  refine xt_if_eq (tgt := 8) dX8_hang_1 (by decide) (fun hc => ?_) (fun hc => ?_)
  · have H := H.1 hc
    exact xt_sub [] rfl (VX8_hang_8 H)
  · have H := H.2 hc
    refine xt_iload_n (j := 2) dX8_hang_4 rfl rfl ?_
    refine xt_if_ne (tgt := 9) dX8_hang_5 (by decide) (fun hc => ?_) (fun hc => ?_)
    · have H := H.1 hc
      refine xt_aload_n (j := 0) dX8_hang_9 rfl rfl ?_
      obtain ⟨ho1, H⟩ := H
      obtain ⟨b2, hb, H⟩ := H
      refine xt_getR dX8_hang_10 (flX8_34 rfl) ft_10_8 ho1.1 ho1.2 hb ?_
      refine xt_iload_n (j := 1) dX8_hang_13 rfl rfl ?_
      obtain ⟨ho3, H⟩ := H
      obtain ⟨hi, H⟩ := H
      refine xt_iald dX8_hang_14 ho3.1 ho3.2 hi ?_
      refine xt_istore_n (lv' := [(3, .int (mAI M b2 (x1 : Int32).toNatClampNeg)), (0, .ref x0), (1, .int x1), (2, .int x2)]) dX8_hang_15 rfl (by decide) rfl ?_
      refine xt_aload_n (j := 1) dX8_hang_16 rfl rfl ?_
      obtain ⟨b4, hb, H⟩ := H
      refine xt_getR dX8_hang_17 (flX8_34 rfl) ft_10_8 ho1.1 ho1.2 hb ?_
      refine xt_iload_n (j := 3) dX8_hang_20 rfl rfl ?_
      obtain ⟨ho5, H⟩ := H
      obtain ⟨hi, H⟩ := H
      refine xt_iald dX8_hang_21 ho5.1 ho5.2 hi ?_
      refine xt_istore (lv' := [(4, .int (mAI M b4 (x2 : Int32).toNatClampNeg)), (3, .int (mAI M b2 (x1 : Int32).toNatClampNeg)), (0, .ref x0), (1, .int x1), (2, .int x2)]) dX8_hang_22 (by decide) rfl ?_
      refine xt_aload_n (j := 2) dX8_hang_24 rfl rfl ?_
      obtain ⟨b6, hb, H⟩ := H
      refine xt_getR dX8_hang_25 (flX8_13 rfl) ft_10_1 ho1.1 ho1.2 hb ?_
      refine xt_iload_n (j := 3) dX8_hang_28 rfl rfl ?_
      obtain ⟨ho7, H⟩ := H
      obtain ⟨hi, H⟩ := H
      refine xt_iald dX8_hang_29 ho7.1 ho7.2 hi ?_
      refine xt_if_ne (tgt := 37) dX8_hang_30 (by decide) (fun hc => ?_) (fun hc => ?_)
      · have H := H.1 hc
        refine xt_iconst (v := 0) dX8_hang_37 (by decide) ?_
        exact xt_sub [2, 3, 4, 1, 0] rfl (VX8_hang_38 H)
      · have H := H.2 hc
        refine xt_iconst (v := 1) dX8_hang_33 (by decide) ?_
        refine xt_goto (tgt := 38) dX8_hang_34 (by decide) ?_
        exact xt_sub [2, 3, 4, 1, 0] rfl (VX8_hang_38 H)
    · have H := H.2 hc
      exact xt_sub [] rfl (VX8_hang_8 H)
theorem KX8_hang {h : Nat} {x0 : Nat} {x1 : Int32} {x2 : Int32} {M : Mem} {Q : Option Value → Mem → Prop} (H : DX8_hang_0 h x0 x1 x2 M Q) : E (h + 1) mdX8_hang [.ref x0, .int x1, .int x2] M Q := E.of (by decide) (Nat.le_of_ble_eq_true rfl) (fun _ _ _ => trivial) (VX8_hang_0 H)
def DX8_canEndAtOnce_16 (h : Nat) (s0 : Int32) (M : Mem) (Q : Option Value → Mem → Prop) : Prop :=
  (s0 = 0 ∨ s0 = 1) ∧ Q (some (.int s0)) M
set_option maxRecDepth 20000 in
set_option maxHeartbeats 2000000 in
theorem VX8_canEndAtOnce_16 {h : Nat} {s0 : Int32} {M : Mem} {Q : Option Value → Mem → Prop} (H : DX8_canEndAtOnce_16 h s0 M Q) : T (h + 1) mdX8_canEndAtOnce 16 [] [.int s0] M Q := by
  unfold DX8_canEndAtOnce_16 at H
  exact xt_zreturn dX8_canEndAtOnce_16 rfl H.1 H.2
def DX8_canEndAtOnce_0 (h : Nat) (x0 : Nat) (x1 : Int32) (M : Mem) (Q : Option Value → Mem → Prop) : Prop :=
  ok M x0 10 ∧ ∃ b2 : Nat, mR M x0 8 = some b2 ∧ ok M b2 21 ∧ vp_in x1 (mL M b2) ∧ (((mAI M b2 (x1 : Int32).toNatClampNeg) &&& 1) = 0 → DX8_canEndAtOnce_16 h 0 M Q) ∧
  (¬ (((mAI M b2 (x1 : Int32).toNatClampNeg) &&& 1) = 0) → DX8_canEndAtOnce_16 h 1 M Q)
set_option maxRecDepth 20000 in
set_option maxHeartbeats 2000000 in
theorem VX8_canEndAtOnce_0 {h : Nat} {x0 : Nat} {x1 : Int32} {M : Mem} {Q : Option Value → Mem → Prop} (H : DX8_canEndAtOnce_0 h x0 x1 M Q) : T (h + 1) mdX8_canEndAtOnce 0 [(0, .ref x0), (1, .int x1)] [] M Q := by
  unfold DX8_canEndAtOnce_0 at H
  refine xt_aload_n (j := 0) dX8_canEndAtOnce_0 rfl rfl ?_
  obtain ⟨ho1, H⟩ := H
  obtain ⟨b2, hb, H⟩ := H
  refine xt_getR dX8_canEndAtOnce_1 (flX8_34 rfl) ft_10_8 ho1.1 ho1.2 hb ?_
  refine xt_iload_n (j := 1) dX8_canEndAtOnce_4 rfl rfl ?_
  obtain ⟨ho3, H⟩ := H
  obtain ⟨hi, H⟩ := H
  refine xt_iald dX8_canEndAtOnce_5 ho3.1 ho3.2 hi ?_
  refine xt_iconst (v := 1) dX8_canEndAtOnce_6 (by decide) ?_
  refine xt_iand dX8_canEndAtOnce_7 ?_
  refine xt_if_eq (tgt := 15) dX8_canEndAtOnce_8 (by decide) (fun hc => ?_) (fun hc => ?_)
  · have H := H.1 hc
    refine xt_iconst (v := 0) dX8_canEndAtOnce_15 (by decide) ?_
    exact xt_sub [] rfl (VX8_canEndAtOnce_16 H)
  · have H := H.2 hc
    refine xt_iconst (v := 1) dX8_canEndAtOnce_11 (by decide) ?_
    refine xt_goto (tgt := 16) dX8_canEndAtOnce_12 (by decide) ?_
    exact xt_sub [] rfl (VX8_canEndAtOnce_16 H)
theorem KX8_canEndAtOnce {h : Nat} {x0 : Nat} {x1 : Int32} {M : Mem} {Q : Option Value → Mem → Prop} (H : DX8_canEndAtOnce_0 h x0 x1 M Q) : E (h + 1) mdX8_canEndAtOnce [.ref x0, .int x1] M Q := E.of (by decide) (Nat.le_of_ble_eq_true rfl) (fun _ _ _ => trivial) (VX8_canEndAtOnce_0 H)
def DX8_wrap_0 (h : Nat) (x0 : Nat) (x1 : Int32) (x2 : Int32) (M : Mem) (Q : Option Value → Mem → Prop) : Prop :=
  ok M x0 10 ∧ E h mdX8_make [.ref x0, .int x1] M (fun r M2 => mE M M2 → ∃ r3 : Int32, r = some (.int r3) ∧ E h mdX8_hang [.ref x0, .int r3, .int x2] M2 (fun r M4 => mE M2 M4 → r = none ∧ Q (some (.int r3)) M4))
set_option maxRecDepth 20000 in
set_option maxHeartbeats 2000000 in
theorem VX8_wrap_0 {h : Nat} {x0 : Nat} {x1 : Int32} {x2 : Int32} {M : Mem} {Q : Option Value → Mem → Prop} (H : DX8_wrap_0 h x0 x1 x2 M Q) : T (h + 1) mdX8_wrap 0 [(0, .ref x0), (1, .int x1), (2, .int x2)] [] M Q := by
  unfold DX8_wrap_0 at H
  refine xt_aload_n (j := 0) dX8_wrap_0 rfl rfl ?_
  refine xt_iload_n (j := 1) dX8_wrap_1 rfl rfl ?_
  obtain ⟨ho1, H⟩ := H
  refine xt_callV (h2 := h) (as := [.int x1]) (st := []) dX8_wrap_2 (mlX8_58 rfl) rfl ho1.1 ⟨by rw [ho1.2]; rfl, by rw [ho1.2]; decide⟩ (by first | decide | (simp [Value.category]; done)) (Nat.le_refl _) H (fun r M2 HH hE => ?_)
  obtain ⟨r3, hr, H⟩ := HH hE
  subst hr
  have ho1 := ok_E ho1 hE
  show T _ _ _ _ [.int r3] _ _
  refine xt_istore_n (lv' := [(3, .int r3), (0, .ref x0), (1, .int x1), (2, .int x2)]) dX8_wrap_5 rfl (by decide) rfl ?_
  refine xt_aload_n (j := 1) dX8_wrap_6 rfl rfl ?_
  refine xt_iload_n (j := 0) dX8_wrap_7 rfl rfl ?_
  refine xt_iload_n (j := 3) dX8_wrap_8 rfl rfl ?_
  refine xt_callV (h2 := h) (as := [.int r3, .int x2]) (st := []) dX8_wrap_9 (mlX8_61 rfl) rfl ho1.1 ⟨by rw [ho1.2]; rfl, by rw [ho1.2]; decide⟩ (by first | decide | (simp [Value.category]; done)) (Nat.le_refl _) H (fun r M4 HH hE => ?_)
  obtain ⟨hr, H⟩ := HH hE
  subst hr
  have ho1 := ok_E ho1 hE
  show T _ _ _ _ [] _ _
  refine xt_iload_n (j := 0) dX8_wrap_12 rfl rfl ?_
  exact xt_ireturn dX8_wrap_13 rfl H
theorem KX8_wrap {h : Nat} {x0 : Nat} {x1 : Int32} {x2 : Int32} {M : Mem} {Q : Option Value → Mem → Prop} (H : DX8_wrap_0 h x0 x1 x2 M Q) : E (h + 1) mdX8_wrap [.ref x0, .int x1, .int x2] M Q := E.of (by decide) (Nat.le_of_ble_eq_true rfl) (fun _ _ _ => trivial) (VX8_wrap_0 H)
def DX8_pair_0 (h : Nat) (x0 : Nat) (x1 : Int32) (x2 : Int32) (x3 : Int32) (M : Mem) (Q : Option Value → Mem → Prop) : Prop :=
  ok M x0 10 ∧ E h mdX8_make [.ref x0, .int x1] M (fun r M2 => mE M M2 → ∃ r3 : Int32, r = some (.int r3) ∧ E h mdX8_hang [.ref x0, .int r3, .int x2] M2 (fun r M4 => mE M2 M4 → r = none ∧ E h mdX8_hang [.ref x0, .int r3, .int x3] M4 (fun r M5 => mE M4 M5 → r = none ∧ Q (some (.int r3)) M5)))
set_option maxRecDepth 20000 in
set_option maxHeartbeats 2000000 in
theorem VX8_pair_0 {h : Nat} {x0 : Nat} {x1 : Int32} {x2 : Int32} {x3 : Int32} {M : Mem} {Q : Option Value → Mem → Prop} (H : DX8_pair_0 h x0 x1 x2 x3 M Q) : T (h + 1) mdX8_pair 0 [(0, .ref x0), (1, .int x1), (2, .int x2), (3, .int x3)] [] M Q := by
  unfold DX8_pair_0 at H
  refine xt_aload_n (j := 0) dX8_pair_0 rfl rfl ?_
  refine xt_iload_n (j := 1) dX8_pair_1 rfl rfl ?_
  obtain ⟨ho1, H⟩ := H
  refine xt_callV (h2 := h) (as := [.int x1]) (st := []) dX8_pair_2 (mlX8_58 rfl) rfl ho1.1 ⟨by rw [ho1.2]; rfl, by rw [ho1.2]; decide⟩ (by first | decide | (simp [Value.category]; done)) (Nat.le_refl _) H (fun r M2 HH hE => ?_)
  obtain ⟨r3, hr, H⟩ := HH hE
  subst hr
  have ho1 := ok_E ho1 hE
  show T _ _ _ _ [.int r3] _ _
  refine xt_istore (lv' := [(4, .int r3), (0, .ref x0), (1, .int x1), (2, .int x2), (3, .int x3)]) dX8_pair_5 (by decide) rfl ?_
  refine xt_aload_n (j := 1) dX8_pair_7 rfl rfl ?_
  refine xt_iload (j := 0) dX8_pair_8 rfl ?_
  refine xt_iload_n (j := 3) dX8_pair_10 rfl rfl ?_
  refine xt_callV (h2 := h) (as := [.int r3, .int x2]) (st := []) dX8_pair_11 (mlX8_61 rfl) rfl ho1.1 ⟨by rw [ho1.2]; rfl, by rw [ho1.2]; decide⟩ (by first | decide | (simp [Value.category]; done)) (Nat.le_refl _) H (fun r M4 HH hE => ?_)
  obtain ⟨hr, H⟩ := HH hE
  subst hr
  have ho1 := ok_E ho1 hE
  show T _ _ _ _ [] _ _
  refine xt_aload_n (j := 1) dX8_pair_14 rfl rfl ?_
  refine xt_iload (j := 0) dX8_pair_15 rfl ?_
  refine xt_iload_n (j := 4) dX8_pair_17 rfl rfl ?_
  refine xt_callV (h2 := h) (as := [.int r3, .int x3]) (st := []) dX8_pair_18 (mlX8_61 rfl) rfl ho1.1 ⟨by rw [ho1.2]; rfl, by rw [ho1.2]; decide⟩ (by first | decide | (simp [Value.category]; done)) (Nat.le_refl _) H (fun r M5 HH hE => ?_)
  obtain ⟨hr, H⟩ := HH hE
  subst hr
  have ho1 := ok_E ho1 hE
  show T _ _ _ _ [] _ _
  refine xt_iload (j := 0) dX8_pair_21 rfl ?_
  exact xt_ireturn dX8_pair_23 rfl H
theorem KX8_pair {h : Nat} {x0 : Nat} {x1 : Int32} {x2 : Int32} {x3 : Int32} {M : Mem} {Q : Option Value → Mem → Prop} (H : DX8_pair_0 h x0 x1 x2 x3 M Q) : E (h + 1) mdX8_pair [.ref x0, .int x1, .int x2, .int x3] M Q := E.of (by decide) (Nat.le_of_ble_eq_true rfl) (fun _ _ _ => trivial) (VX8_pair_0 H)
def DX8_pauseNode_0 (h : Nat) (x0 : Nat) (M : Mem) (Q : Option Value → Mem → Prop) : Prop :=
  ok M x0 10 ∧ E h mdX8_make [.ref x0, .int 1] M (fun r M2 => mE M M2 → ∃ r3 : Int32, r = some (.int r3) ∧ ∃ b4 : Nat, mR M2 x0 6 = some b4 ∧ ok M2 b4 21 ∧ vp_in r3 (mL M2 b4) ∧ ∀ M6 : Mem, M6 = wAI M2 b4 (r3 : Int32).toNatClampNeg (mI M2 x0 10) →
  ∃ b7 : Nat, mR M6 x0 7 = some b7 ∧ ok M6 b7 21 ∧ vp_in r3 (mL M6 b7) ∧ ∀ M9 : Mem, M9 = wAI M6 b7 (r3 : Int32).toNatClampNeg ((1 : Int32) <<< ((mI M6 x0 10) &&& 31)) →
  ∃ b10 : Nat, mR M9 x0 8 = some b10 ∧ ok M9 b10 21 ∧ vp_in r3 (mL M9 b10) ∧ ∀ M12 : Mem, M12 = wAI M9 b10 (r3 : Int32).toNatClampNeg 2 →
  ∀ M13 : Mem, M13 = wI M12 x0 10 ((mI M12 x0 10) + 1) →
  Q (some (.int r3)) M13)
set_option maxRecDepth 20000 in
set_option maxHeartbeats 2000000 in
theorem VX8_pauseNode_0 {h : Nat} {x0 : Nat} {M : Mem} {Q : Option Value → Mem → Prop} (H : DX8_pauseNode_0 h x0 M Q) : T (h + 1) mdX8_pauseNode 0 [(0, .ref x0)] [] M Q := by
  unfold DX8_pauseNode_0 at H
  refine xt_aload_n (j := 0) dX8_pauseNode_0 rfl rfl ?_
  refine xt_iconst (v := 1) dX8_pauseNode_1 (by decide) ?_
  obtain ⟨ho1, H⟩ := H
  refine xt_callV (h2 := h) (as := [.int 1]) (st := []) dX8_pauseNode_2 (mlX8_58 rfl) rfl ho1.1 ⟨by rw [ho1.2]; rfl, by rw [ho1.2]; decide⟩ (by first | decide | (simp [Value.category]; done)) (Nat.le_refl _) H (fun r M2 HH hE => ?_)
  obtain ⟨r3, hr, H⟩ := HH hE
  subst hr
  have ho1 := ok_E ho1 hE
  show T _ _ _ _ [.int r3] _ _
  refine xt_istore_n (lv' := [(1, .int r3), (0, .ref x0)]) dX8_pauseNode_5 rfl (by decide) rfl ?_
  refine xt_aload_n (j := 1) dX8_pauseNode_6 rfl rfl ?_
  obtain ⟨b4, hb, H⟩ := H
  refine xt_getR dX8_pauseNode_7 (flX8_28 rfl) ft_10_6 ho1.1 ho1.2 hb ?_
  refine xt_iload_n (j := 0) dX8_pauseNode_10 rfl rfl ?_
  refine xt_aload_n (j := 1) dX8_pauseNode_11 rfl rfl ?_
  refine xt_getI dX8_pauseNode_12 (flX8_41 rfl) ft_10_10 ho1.1 ho1.2 ?_
  obtain ⟨ho5, H⟩ := H
  obtain ⟨hi, H⟩ := H
  obtain ⟨M6, eM6⟩ : ∃ z, z = wAI M2 b4 (r3 : Int32).toNatClampNeg (mI M2 x0 10) := ⟨_, rfl⟩
  have H := H _ eM6
  refine xt_iast dX8_pauseNode_15 ho5.1 ho5.2 hi ?_
  have ho1 : ok M6 x0 10 := by rw [eM6]; exact ho1
  rw [← eM6]
  refine xt_aload_n (j := 1) dX8_pauseNode_16 rfl rfl ?_
  obtain ⟨b7, hb, H⟩ := H
  refine xt_getR dX8_pauseNode_17 (flX8_31 rfl) ft_10_7 ho1.1 ho1.2 hb ?_
  refine xt_iload_n (j := 0) dX8_pauseNode_20 rfl rfl ?_
  refine xt_iconst (v := 1) dX8_pauseNode_21 (by decide) ?_
  refine xt_aload_n (j := 1) dX8_pauseNode_22 rfl rfl ?_
  refine xt_getI dX8_pauseNode_23 (flX8_41 rfl) ft_10_10 ho1.1 ho1.2 ?_
  refine xt_ishl dX8_pauseNode_26 ?_
  obtain ⟨ho8, H⟩ := H
  obtain ⟨hi, H⟩ := H
  obtain ⟨M9, eM9⟩ : ∃ z, z = wAI M6 b7 (r3 : Int32).toNatClampNeg ((1 : Int32) <<< ((mI M6 x0 10) &&& 31)) := ⟨_, rfl⟩
  have H := H _ eM9
  refine xt_iast dX8_pauseNode_27 ho8.1 ho8.2 hi ?_
  have ho1 : ok M9 x0 10 := by rw [eM9]; exact ho1
  rw [← eM9]
  refine xt_aload_n (j := 1) dX8_pauseNode_28 rfl rfl ?_
  obtain ⟨b10, hb, H⟩ := H
  refine xt_getR dX8_pauseNode_29 (flX8_34 rfl) ft_10_8 ho1.1 ho1.2 hb ?_
  refine xt_iload_n (j := 0) dX8_pauseNode_32 rfl rfl ?_
  refine xt_iconst (v := 2) dX8_pauseNode_33 (by decide) ?_
  obtain ⟨ho11, H⟩ := H
  obtain ⟨hi, H⟩ := H
  obtain ⟨M12, eM12⟩ : ∃ z, z = wAI M9 b10 (r3 : Int32).toNatClampNeg 2 := ⟨_, rfl⟩
  have H := H _ eM12
  refine xt_iast dX8_pauseNode_34 ho11.1 ho11.2 hi ?_
  have ho1 : ok M12 x0 10 := by rw [eM12]; exact ho1
  rw [← eM12]
  refine xt_aload_n (j := 1) dX8_pauseNode_35 rfl rfl ?_
  refine xt_dup dX8_pauseNode_36 rfl ?_
  refine xt_getI dX8_pauseNode_37 (flX8_41 rfl) ft_10_10 ho1.1 ho1.2 ?_
  refine xt_iconst (v := 1) dX8_pauseNode_40 (by decide) ?_
  refine xt_iadd dX8_pauseNode_41 ?_
  obtain ⟨M13, eM13⟩ : ∃ z, z = wI M12 x0 10 ((mI M12 x0 10) + 1) := ⟨_, rfl⟩
  have H := H _ eM13
  refine xt_putI dX8_pauseNode_42 (flX8_41 rfl) ty_10_10 rfl ho1.1 ho1.2 ?_
  have ho1 : ok M13 x0 10 := by rw [eM13]; exact ho1
  rw [← eM13]
  refine xt_iload_n (j := 0) dX8_pauseNode_45 rfl rfl ?_
  exact xt_ireturn dX8_pauseNode_46 rfl H
theorem KX8_pauseNode {h : Nat} {x0 : Nat} {M : Mem} {Q : Option Value → Mem → Prop} (H : DX8_pauseNode_0 h x0 M Q) : E (h + 1) mdX8_pauseNode [.ref x0] M Q := E.of (by decide) (Nat.le_of_ble_eq_true rfl) (fun _ _ _ => trivial) (VX8_pauseNode_0 H)
def DX8_emit_0 (h : Nat) (x0 : Nat) (x1 : Int32) (M : Mem) (Q : Option Value → Mem → Prop) : Prop :=
  ok M x0 10 ∧ E h mdX8_make [.ref x0, .int 2] M (fun r M2 => mE M M2 → ∃ r3 : Int32, r = some (.int r3) ∧ ∃ b4 : Nat, mR M2 x0 6 = some b4 ∧ ok M2 b4 21 ∧ vp_in r3 (mL M2 b4) ∧ ∀ M6 : Mem, M6 = wAI M2 b4 (r3 : Int32).toNatClampNeg x1 →
  ∃ b7 : Nat, mR M6 x0 8 = some b7 ∧ ok M6 b7 21 ∧ vp_in r3 (mL M6 b7) ∧ ∀ M9 : Mem, M9 = wAI M6 b7 (r3 : Int32).toNatClampNeg 1 →
  Q (some (.int r3)) M9)
set_option maxRecDepth 20000 in
set_option maxHeartbeats 2000000 in
theorem VX8_emit_0 {h : Nat} {x0 : Nat} {x1 : Int32} {M : Mem} {Q : Option Value → Mem → Prop} (H : DX8_emit_0 h x0 x1 M Q) : T (h + 1) mdX8_emit 0 [(0, .ref x0), (1, .int x1)] [] M Q := by
  unfold DX8_emit_0 at H
  refine xt_aload_n (j := 0) dX8_emit_0 rfl rfl ?_
  refine xt_iconst (v := 2) dX8_emit_1 (by decide) ?_
  obtain ⟨ho1, H⟩ := H
  refine xt_callV (h2 := h) (as := [.int 2]) (st := []) dX8_emit_2 (mlX8_58 rfl) rfl ho1.1 ⟨by rw [ho1.2]; rfl, by rw [ho1.2]; decide⟩ (by first | decide | (simp [Value.category]; done)) (Nat.le_refl _) H (fun r M2 HH hE => ?_)
  obtain ⟨r3, hr, H⟩ := HH hE
  subst hr
  have ho1 := ok_E ho1 hE
  show T _ _ _ _ [.int r3] _ _
  refine xt_istore_n (lv' := [(2, .int r3), (0, .ref x0), (1, .int x1)]) dX8_emit_5 rfl (by decide) rfl ?_
  refine xt_aload_n (j := 1) dX8_emit_6 rfl rfl ?_
  obtain ⟨b4, hb, H⟩ := H
  refine xt_getR dX8_emit_7 (flX8_28 rfl) ft_10_6 ho1.1 ho1.2 hb ?_
  refine xt_iload_n (j := 0) dX8_emit_10 rfl rfl ?_
  refine xt_iload_n (j := 2) dX8_emit_11 rfl rfl ?_
  obtain ⟨ho5, H⟩ := H
  obtain ⟨hi, H⟩ := H
  obtain ⟨M6, eM6⟩ : ∃ z, z = wAI M2 b4 (r3 : Int32).toNatClampNeg x1 := ⟨_, rfl⟩
  have H := H _ eM6
  refine xt_iast dX8_emit_12 ho5.1 ho5.2 hi ?_
  have ho1 : ok M6 x0 10 := by rw [eM6]; exact ho1
  rw [← eM6]
  refine xt_aload_n (j := 1) dX8_emit_13 rfl rfl ?_
  obtain ⟨b7, hb, H⟩ := H
  refine xt_getR dX8_emit_14 (flX8_34 rfl) ft_10_8 ho1.1 ho1.2 hb ?_
  refine xt_iload_n (j := 0) dX8_emit_17 rfl rfl ?_
  refine xt_iconst (v := 1) dX8_emit_18 (by decide) ?_
  obtain ⟨ho8, H⟩ := H
  obtain ⟨hi, H⟩ := H
  obtain ⟨M9, eM9⟩ : ∃ z, z = wAI M6 b7 (r3 : Int32).toNatClampNeg 1 := ⟨_, rfl⟩
  have H := H _ eM9
  refine xt_iast dX8_emit_19 ho8.1 ho8.2 hi ?_
  have ho1 : ok M9 x0 10 := by rw [eM9]; exact ho1
  rw [← eM9]
  refine xt_iload_n (j := 0) dX8_emit_20 rfl rfl ?_
  exact xt_ireturn dX8_emit_21 rfl H
theorem KX8_emit {h : Nat} {x0 : Nat} {x1 : Int32} {M : Mem} {Q : Option Value → Mem → Prop} (H : DX8_emit_0 h x0 x1 M Q) : E (h + 1) mdX8_emit [.ref x0, .int x1] M Q := E.of (by decide) (Nat.le_of_ble_eq_true rfl) (fun _ _ _ => trivial) (VX8_emit_0 H)
def DX8_exit_0 (h : Nat) (x0 : Nat) (x1 : Int32) (M : Mem) (Q : Option Value → Mem → Prop) : Prop :=
  ok M x0 10 ∧ E h mdX8_make [.ref x0, .int 3] M (fun r M2 => mE M M2 → ∃ r3 : Int32, r = some (.int r3) ∧ ∃ b4 : Nat, mR M2 x0 6 = some b4 ∧ ok M2 b4 21 ∧ vp_in r3 (mL M2 b4) ∧ ∀ M6 : Mem, M6 = wAI M2 b4 (r3 : Int32).toNatClampNeg (2 + x1) →
  ∃ b7 : Nat, mR M6 x0 8 = some b7 ∧ ∃ b8 : Nat, mR M6 x0 6 = some b8 ∧ ok M6 b8 21 ∧ vp_in r3 (mL M6 b8) ∧ ok M6 b7 21 ∧ vp_in r3 (mL M6 b7) ∧ ∀ M11 : Mem, M11 = wAI M6 b7 (r3 : Int32).toNatClampNeg ((1 : Int32) <<< ((mAI M6 b8 (r3 : Int32).toNatClampNeg) &&& 31)) →
  Q (some (.int r3)) M11)
set_option maxRecDepth 20000 in
set_option maxHeartbeats 2000000 in
theorem VX8_exit_0 {h : Nat} {x0 : Nat} {x1 : Int32} {M : Mem} {Q : Option Value → Mem → Prop} (H : DX8_exit_0 h x0 x1 M Q) : T (h + 1) mdX8_exit 0 [(0, .ref x0), (1, .int x1)] [] M Q := by
  unfold DX8_exit_0 at H
  refine xt_aload_n (j := 0) dX8_exit_0 rfl rfl ?_
  refine xt_iconst (v := 3) dX8_exit_1 (by decide) ?_
  obtain ⟨ho1, H⟩ := H
  refine xt_callV (h2 := h) (as := [.int 3]) (st := []) dX8_exit_2 (mlX8_58 rfl) rfl ho1.1 ⟨by rw [ho1.2]; rfl, by rw [ho1.2]; decide⟩ (by first | decide | (simp [Value.category]; done)) (Nat.le_refl _) H (fun r M2 HH hE => ?_)
  obtain ⟨r3, hr, H⟩ := HH hE
  subst hr
  have ho1 := ok_E ho1 hE
  show T _ _ _ _ [.int r3] _ _
  refine xt_istore_n (lv' := [(2, .int r3), (0, .ref x0), (1, .int x1)]) dX8_exit_5 rfl (by decide) rfl ?_
  refine xt_aload_n (j := 1) dX8_exit_6 rfl rfl ?_
  obtain ⟨b4, hb, H⟩ := H
  refine xt_getR dX8_exit_7 (flX8_28 rfl) ft_10_6 ho1.1 ho1.2 hb ?_
  refine xt_iload_n (j := 0) dX8_exit_10 rfl rfl ?_
  refine xt_iconst (v := 2) dX8_exit_11 (by decide) ?_
  refine xt_iload_n (j := 2) dX8_exit_12 rfl rfl ?_
  refine xt_iadd dX8_exit_13 ?_
  obtain ⟨ho5, H⟩ := H
  obtain ⟨hi, H⟩ := H
  obtain ⟨M6, eM6⟩ : ∃ z, z = wAI M2 b4 (r3 : Int32).toNatClampNeg (2 + x1) := ⟨_, rfl⟩
  have H := H _ eM6
  refine xt_iast dX8_exit_14 ho5.1 ho5.2 hi ?_
  have ho1 : ok M6 x0 10 := by rw [eM6]; exact ho1
  rw [← eM6]
  refine xt_aload_n (j := 1) dX8_exit_15 rfl rfl ?_
  obtain ⟨b7, hb, H⟩ := H
  refine xt_getR dX8_exit_16 (flX8_34 rfl) ft_10_8 ho1.1 ho1.2 hb ?_
  refine xt_iload_n (j := 0) dX8_exit_19 rfl rfl ?_
  refine xt_iconst (v := 1) dX8_exit_20 (by decide) ?_
  refine xt_aload_n (j := 1) dX8_exit_21 rfl rfl ?_
  obtain ⟨b8, hb, H⟩ := H
  refine xt_getR dX8_exit_22 (flX8_28 rfl) ft_10_6 ho1.1 ho1.2 hb ?_
  refine xt_iload_n (j := 0) dX8_exit_25 rfl rfl ?_
  obtain ⟨ho9, H⟩ := H
  obtain ⟨hi, H⟩ := H
  refine xt_iald dX8_exit_26 ho9.1 ho9.2 hi ?_
  refine xt_ishl dX8_exit_27 ?_
  obtain ⟨ho10, H⟩ := H
  obtain ⟨hi, H⟩ := H
  obtain ⟨M11, eM11⟩ : ∃ z, z = wAI M6 b7 (r3 : Int32).toNatClampNeg ((1 : Int32) <<< ((mAI M6 b8 (r3 : Int32).toNatClampNeg) &&& 31)) := ⟨_, rfl⟩
  have H := H _ eM11
  refine xt_iast dX8_exit_28 ho10.1 ho10.2 hi ?_
  have ho1 : ok M11 x0 10 := by rw [eM11]; exact ho1
  rw [← eM11]
  refine xt_iload_n (j := 0) dX8_exit_29 rfl rfl ?_
  exact xt_ireturn dX8_exit_30 rfl H
theorem KX8_exit {h : Nat} {x0 : Nat} {x1 : Int32} {M : Mem} {Q : Option Value → Mem → Prop} (H : DX8_exit_0 h x0 x1 M Q) : E (h + 1) mdX8_exit [.ref x0, .int x1] M Q := E.of (by decide) (Nat.le_of_ble_eq_true rfl) (fun _ _ _ => trivial) (VX8_exit_0 H)
def DX8_choice_0 (h : Nat) (x0 : Nat) (x1 : Int32) (x2 : Int32) (x3 : Int32) (M : Mem) (Q : Option Value → Mem → Prop) : Prop :=
  ok M x0 10 ∧ E h mdX8_make [.ref x0, .int 4] M (fun r M2 => mE M M2 → ∃ r3 : Int32, r = some (.int r3) ∧ E h mdX8_hang [.ref x0, .int r3, .int x2] M2 (fun r M4 => mE M2 M4 → r = none ∧ E h mdX8_hang [.ref x0, .int r3, .int x3] M4 (fun r M5 => mE M4 M5 → r = none ∧ ∃ b6 : Nat, mR M5 x0 5 = some b6 ∧ ok M5 b6 21 ∧ vp_in r3 (mL M5 b6) ∧ ∀ M8 : Mem, M8 = wAI M5 b6 (r3 : Int32).toNatClampNeg x1 →
  Q (some (.int r3)) M8)))
set_option maxRecDepth 20000 in
set_option maxHeartbeats 2000000 in
theorem VX8_choice_0 {h : Nat} {x0 : Nat} {x1 : Int32} {x2 : Int32} {x3 : Int32} {M : Mem} {Q : Option Value → Mem → Prop} (H : DX8_choice_0 h x0 x1 x2 x3 M Q) : T (h + 1) mdX8_choice 0 [(0, .ref x0), (1, .int x1), (2, .int x2), (3, .int x3)] [] M Q := by
  unfold DX8_choice_0 at H
  refine xt_aload_n (j := 0) dX8_choice_0 rfl rfl ?_
  refine xt_iconst (v := 4) dX8_choice_1 (by decide) ?_
  obtain ⟨ho1, H⟩ := H
  refine xt_callV (h2 := h) (as := [.int 4]) (st := []) dX8_choice_2 (mlX8_58 rfl) rfl ho1.1 ⟨by rw [ho1.2]; rfl, by rw [ho1.2]; decide⟩ (by first | decide | (simp [Value.category]; done)) (Nat.le_refl _) H (fun r M2 HH hE => ?_)
  obtain ⟨r3, hr, H⟩ := HH hE
  subst hr
  have ho1 := ok_E ho1 hE
  show T _ _ _ _ [.int r3] _ _
  refine xt_istore (lv' := [(4, .int r3), (0, .ref x0), (1, .int x1), (2, .int x2), (3, .int x3)]) dX8_choice_5 (by decide) rfl ?_
  refine xt_aload_n (j := 1) dX8_choice_7 rfl rfl ?_
  refine xt_iload (j := 0) dX8_choice_8 rfl ?_
  refine xt_iload_n (j := 3) dX8_choice_10 rfl rfl ?_
  refine xt_callV (h2 := h) (as := [.int r3, .int x2]) (st := []) dX8_choice_11 (mlX8_61 rfl) rfl ho1.1 ⟨by rw [ho1.2]; rfl, by rw [ho1.2]; decide⟩ (by first | decide | (simp [Value.category]; done)) (Nat.le_refl _) H (fun r M4 HH hE => ?_)
  obtain ⟨hr, H⟩ := HH hE
  subst hr
  have ho1 := ok_E ho1 hE
  show T _ _ _ _ [] _ _
  refine xt_aload_n (j := 1) dX8_choice_14 rfl rfl ?_
  refine xt_iload (j := 0) dX8_choice_15 rfl ?_
  refine xt_iload_n (j := 4) dX8_choice_17 rfl rfl ?_
  refine xt_callV (h2 := h) (as := [.int r3, .int x3]) (st := []) dX8_choice_18 (mlX8_61 rfl) rfl ho1.1 ⟨by rw [ho1.2]; rfl, by rw [ho1.2]; decide⟩ (by first | decide | (simp [Value.category]; done)) (Nat.le_refl _) H (fun r M5 HH hE => ?_)
  obtain ⟨hr, H⟩ := HH hE
  subst hr
  have ho1 := ok_E ho1 hE
  show T _ _ _ _ [] _ _
  refine xt_aload_n (j := 1) dX8_choice_21 rfl rfl ?_
  obtain ⟨b6, hb, H⟩ := H
  refine xt_getR dX8_choice_22 (flX8_25 rfl) ft_10_5 ho1.1 ho1.2 hb ?_
  refine xt_iload (j := 0) dX8_choice_25 rfl ?_
  refine xt_iload_n (j := 2) dX8_choice_27 rfl rfl ?_
  obtain ⟨ho7, H⟩ := H
  obtain ⟨hi, H⟩ := H
  obtain ⟨M8, eM8⟩ : ∃ z, z = wAI M5 b6 (r3 : Int32).toNatClampNeg x1 := ⟨_, rfl⟩
  have H := H _ eM8
  refine xt_iast dX8_choice_28 ho7.1 ho7.2 hi ?_
  have ho1 : ok M8 x0 10 := by rw [eM8]; exact ho1
  rw [← eM8]
  refine xt_iload (j := 0) dX8_choice_29 rfl ?_
  exact xt_ireturn dX8_choice_31 rfl H
theorem KX8_choice {h : Nat} {x0 : Nat} {x1 : Int32} {x2 : Int32} {x3 : Int32} {M : Mem} {Q : Option Value → Mem → Prop} (H : DX8_choice_0 h x0 x1 x2 x3 M Q) : E (h + 1) mdX8_choice [.ref x0, .int x1, .int x2, .int x3] M Q := E.of (by decide) (Nat.le_of_ble_eq_true rfl) (fun _ _ _ => trivial) (VX8_choice_0 H)
def DX8_suspend_0 (h : Nat) (x0 : Nat) (x1 : Int32) (x2 : Int32) (M : Mem) (Q : Option Value → Mem → Prop) : Prop :=
  ok M x0 10 ∧ E h mdX8_wrap [.ref x0, .int 7, .int x1] M (fun r M2 => mE M M2 → ∃ r3 : Int32, r = some (.int r3) ∧ ∃ b4 : Nat, mR M2 x0 5 = some b4 ∧ ok M2 b4 21 ∧ vp_in r3 (mL M2 b4) ∧ ∀ M6 : Mem, M6 = wAI M2 b4 (r3 : Int32).toNatClampNeg x2 →
  Q (some (.int r3)) M6)
set_option maxRecDepth 20000 in
set_option maxHeartbeats 2000000 in
theorem VX8_suspend_0 {h : Nat} {x0 : Nat} {x1 : Int32} {x2 : Int32} {M : Mem} {Q : Option Value → Mem → Prop} (H : DX8_suspend_0 h x0 x1 x2 M Q) : T (h + 1) mdX8_suspend 0 [(0, .ref x0), (1, .int x1), (2, .int x2)] [] M Q := by
  unfold DX8_suspend_0 at H
  refine xt_aload_n (j := 0) dX8_suspend_0 rfl rfl ?_
  refine xt_bipush (v := 7) dX8_suspend_1 (by decide) ?_
  refine xt_iload_n (j := 1) dX8_suspend_3 rfl rfl ?_
  obtain ⟨ho1, H⟩ := H
  refine xt_callV (h2 := h) (as := [.int 7, .int x1]) (st := []) dX8_suspend_4 (mlX8_65 rfl) rfl ho1.1 ⟨by rw [ho1.2]; rfl, by rw [ho1.2]; decide⟩ (by first | decide | (simp [Value.category]; done)) (Nat.le_refl _) H (fun r M2 HH hE => ?_)
  obtain ⟨r3, hr, H⟩ := HH hE
  subst hr
  have ho1 := ok_E ho1 hE
  show T _ _ _ _ [.int r3] _ _
  refine xt_istore_n (lv' := [(3, .int r3), (0, .ref x0), (1, .int x1), (2, .int x2)]) dX8_suspend_7 rfl (by decide) rfl ?_
  refine xt_aload_n (j := 1) dX8_suspend_8 rfl rfl ?_
  obtain ⟨b4, hb, H⟩ := H
  refine xt_getR dX8_suspend_9 (flX8_25 rfl) ft_10_5 ho1.1 ho1.2 hb ?_
  refine xt_iload_n (j := 0) dX8_suspend_12 rfl rfl ?_
  refine xt_iload_n (j := 3) dX8_suspend_13 rfl rfl ?_
  obtain ⟨ho5, H⟩ := H
  obtain ⟨hi, H⟩ := H
  obtain ⟨M6, eM6⟩ : ∃ z, z = wAI M2 b4 (r3 : Int32).toNatClampNeg x2 := ⟨_, rfl⟩
  have H := H _ eM6
  refine xt_iast dX8_suspend_14 ho5.1 ho5.2 hi ?_
  have ho1 : ok M6 x0 10 := by rw [eM6]; exact ho1
  rw [← eM6]
  refine xt_iload_n (j := 0) dX8_suspend_15 rfl rfl ?_
  exact xt_ireturn dX8_suspend_16 rfl H
theorem KX8_suspend {h : Nat} {x0 : Nat} {x1 : Int32} {x2 : Int32} {M : Mem} {Q : Option Value → Mem → Prop} (H : DX8_suspend_0 h x0 x1 x2 M Q) : E (h + 1) mdX8_suspend [.ref x0, .int x1, .int x2] M Q := E.of (by decide) (Nat.le_of_ble_eq_true rfl) (fun _ _ _ => trivial) (VX8_suspend_0 H)
def DX8_halt_0 (h : Nat) (x0 : Nat) (M : Mem) (Q : Option Value → Mem → Prop) : Prop :=
  ok M x0 10 ∧ E h mdX8_pauseNode [.ref x0] M (fun r M2 => mE M M2 → ∃ r3 : Int32, r = some (.int r3) ∧ E h mdX8_wrap [.ref x0, .int 6, .int r3] M2 (fun r M4 => mE M2 M4 → ∃ r5 : Int32, r = some (.int r5) ∧ Q (some (.int r5)) M4))
set_option maxRecDepth 20000 in
set_option maxHeartbeats 2000000 in
theorem VX8_halt_0 {h : Nat} {x0 : Nat} {M : Mem} {Q : Option Value → Mem → Prop} (H : DX8_halt_0 h x0 M Q) : T (h + 1) mdX8_halt 0 [(0, .ref x0)] [] M Q := by
  unfold DX8_halt_0 at H
  refine xt_aload_n (j := 0) dX8_halt_0 rfl rfl ?_
  refine xt_bipush (v := 6) dX8_halt_1 (by decide) ?_
  refine xt_aload_n (j := 0) dX8_halt_3 rfl rfl ?_
  obtain ⟨ho1, H⟩ := H
  refine xt_callV (h2 := h) (as := []) (st := [.int 6, .ref x0]) dX8_halt_4 (mlX8_68 rfl) rfl ho1.1 ⟨by rw [ho1.2]; rfl, by rw [ho1.2]; decide⟩ (by first | decide | (simp [Value.category]; done)) (Nat.le_refl _) H (fun r M2 HH hE => ?_)
  obtain ⟨r3, hr, H⟩ := HH hE
  subst hr
  have ho1 := ok_E ho1 hE
  show T _ _ _ _ [.int r3, .int 6, .ref x0] _ _
  refine xt_callV (h2 := h) (as := [.int 6, .int r3]) (st := []) dX8_halt_7 (mlX8_65 rfl) rfl ho1.1 ⟨by rw [ho1.2]; rfl, by rw [ho1.2]; decide⟩ (by first | decide | (simp [Value.category]; done)) (Nat.le_refl _) H (fun r M4 HH hE => ?_)
  obtain ⟨r5, hr, H⟩ := HH hE
  subst hr
  have ho1 := ok_E ho1 hE
  show T _ _ _ _ [.int r5] _ _
  exact xt_ireturn dX8_halt_10 rfl H
theorem KX8_halt {h : Nat} {x0 : Nat} {M : Mem} {Q : Option Value → Mem → Prop} (H : DX8_halt_0 h x0 M Q) : E (h + 1) mdX8_halt [.ref x0] M Q := E.of (by decide) (Nat.le_of_ble_eq_true rfl) (fun _ _ _ => trivial) (VX8_halt_0 H)
def DX8_sustain_0 (h : Nat) (x0 : Nat) (x1 : Int32) (M : Mem) (Q : Option Value → Mem → Prop) : Prop :=
  ok M x0 10 ∧ E h mdX8_emit [.ref x0, .int x1] M (fun r M2 => mE M M2 → ∃ r3 : Int32, r = some (.int r3) ∧ E h mdX8_pauseNode [.ref x0] M2 (fun r M4 => mE M2 M4 → ∃ r5 : Int32, r = some (.int r5) ∧ E h mdX8_pair [.ref x0, .int 5, .int r3, .int r5] M4 (fun r M6 => mE M4 M6 → ∃ r7 : Int32, r = some (.int r7) ∧ E h mdX8_wrap [.ref x0, .int 6, .int r7] M6 (fun r M8 => mE M6 M8 → ∃ r9 : Int32, r = some (.int r9) ∧ Q (some (.int r9)) M8))))
set_option maxRecDepth 20000 in
set_option maxHeartbeats 2000000 in
theorem VX8_sustain_0 {h : Nat} {x0 : Nat} {x1 : Int32} {M : Mem} {Q : Option Value → Mem → Prop} (H : DX8_sustain_0 h x0 x1 M Q) : T (h + 1) mdX8_sustain 0 [(0, .ref x0), (1, .int x1)] [] M Q := by
  unfold DX8_sustain_0 at H
  refine xt_aload_n (j := 0) dX8_sustain_0 rfl rfl ?_
  refine xt_iload_n (j := 1) dX8_sustain_1 rfl rfl ?_
  obtain ⟨ho1, H⟩ := H
  refine xt_callV (h2 := h) (as := [.int x1]) (st := []) dX8_sustain_2 (mlX8_72 rfl) rfl ho1.1 ⟨by rw [ho1.2]; rfl, by rw [ho1.2]; decide⟩ (by first | decide | (simp [Value.category]; done)) (Nat.le_refl _) H (fun r M2 HH hE => ?_)
  obtain ⟨r3, hr, H⟩ := HH hE
  subst hr
  have ho1 := ok_E ho1 hE
  show T _ _ _ _ [.int r3] _ _
  refine xt_istore_n (lv' := [(2, .int r3), (0, .ref x0), (1, .int x1)]) dX8_sustain_5 rfl (by decide) rfl ?_
  refine xt_aload_n (j := 1) dX8_sustain_6 rfl rfl ?_
  refine xt_bipush (v := 6) dX8_sustain_7 (by decide) ?_
  refine xt_aload_n (j := 1) dX8_sustain_9 rfl rfl ?_
  refine xt_iconst (v := 5) dX8_sustain_10 (by decide) ?_
  refine xt_iload_n (j := 0) dX8_sustain_11 rfl rfl ?_
  refine xt_aload_n (j := 1) dX8_sustain_12 rfl rfl ?_
  refine xt_callV (h2 := h) (as := []) (st := [.int r3, .int 5, .ref x0, .int 6, .ref x0]) dX8_sustain_13 (mlX8_68 rfl) rfl ho1.1 ⟨by rw [ho1.2]; rfl, by rw [ho1.2]; decide⟩ (by first | decide | (simp [Value.category]; done)) (Nat.le_refl _) H (fun r M4 HH hE => ?_)
  obtain ⟨r5, hr, H⟩ := HH hE
  subst hr
  have ho1 := ok_E ho1 hE
  show T _ _ _ _ [.int r5, .int r3, .int 5, .ref x0, .int 6, .ref x0] _ _
  refine xt_callV (h2 := h) (as := [.int 5, .int r3, .int r5]) (st := [.int 6, .ref x0]) dX8_sustain_16 (mlX8_75 rfl) rfl ho1.1 ⟨by rw [ho1.2]; rfl, by rw [ho1.2]; decide⟩ (by first | decide | (simp [Value.category]; done)) (Nat.le_refl _) H (fun r M6 HH hE => ?_)
  obtain ⟨r7, hr, H⟩ := HH hE
  subst hr
  have ho1 := ok_E ho1 hE
  show T _ _ _ _ [.int r7, .int 6, .ref x0] _ _
  refine xt_callV (h2 := h) (as := [.int 6, .int r7]) (st := []) dX8_sustain_19 (mlX8_65 rfl) rfl ho1.1 ⟨by rw [ho1.2]; rfl, by rw [ho1.2]; decide⟩ (by first | decide | (simp [Value.category]; done)) (Nat.le_refl _) H (fun r M8 HH hE => ?_)
  obtain ⟨r9, hr, H⟩ := HH hE
  subst hr
  have ho1 := ok_E ho1 hE
  show T _ _ _ _ [.int r9] _ _
  exact xt_ireturn dX8_sustain_22 rfl H
theorem KX8_sustain {h : Nat} {x0 : Nat} {x1 : Int32} {M : Mem} {Q : Option Value → Mem → Prop} (H : DX8_sustain_0 h x0 x1 M Q) : E (h + 1) mdX8_sustain [.ref x0, .int x1] M Q := E.of (by decide) (Nat.le_of_ble_eq_true rfl) (fun _ _ _ => trivial) (VX8_sustain_0 H)
def DX8_watch_48 (h : Nat) (s0 : Nat) (s1 : Int32) (s2 : Int32) (M : Mem) (Q : Option Value → Mem → Prop) : Prop :=
  ok M s0 10 ∧ E h mdX8_wrap [.ref s0, .int s1, .int s2] M (fun r M2 => mE M M2 → ∃ r3 : Int32, r = some (.int r3) ∧ Q (some (.int r3)) M2)
set_option maxRecDepth 20000 in
set_option maxHeartbeats 2000000 in
theorem VX8_watch_48 {h : Nat} {s0 : Nat} {s1 : Int32} {s2 : Int32} {M : Mem} {Q : Option Value → Mem → Prop} (H : DX8_watch_48 h s0 s1 s2 M Q) : T (h + 1) mdX8_watch 48 [] [.int s2, .int s1, .ref s0] M Q := by
  unfold DX8_watch_48 at H
  obtain ⟨ho1, H⟩ := H
  refine xt_callV (h2 := h) (as := [.int s1, .int s2]) (st := []) dX8_watch_48 (mlX8_65 rfl) rfl ho1.1 ⟨by rw [ho1.2]; rfl, by rw [ho1.2]; decide⟩ (by first | decide | (simp [Value.category]; done)) (Nat.le_refl _) H (fun r M2 HH hE => ?_)
  obtain ⟨r3, hr, H⟩ := HH hE
  subst hr
  show T _ _ _ _ [.int r3] _ _
  exact xt_ireturn dX8_watch_51 rfl H
def DX8_watch_0 (h : Nat) (x0 : Nat) (x1 : Int32) (x2 : Int32) (M : Mem) (Q : Option Value → Mem → Prop) : Prop :=
  ok M x0 10 ∧ E h mdX8_pauseNode [.ref x0] M (fun r M2 => mE M M2 → ∃ r3 : Int32, r = some (.int r3) ∧ E h mdX8_exit [.ref x0, .int 0] M2 (fun r M4 => mE M2 M4 → ∃ r5 : Int32, r = some (.int r5) ∧ E h mdX8_make [.ref x0, .int 0] M4 (fun r M6 => mE M4 M6 → ∃ r7 : Int32, r = some (.int r7) ∧ E h mdX8_choice [.ref x0, .int x1, .int r5, .int r7] M6 (fun r M8 => mE M6 M8 → ∃ r9 : Int32, r = some (.int r9) ∧ (x2 = 0 → E h mdX8_pair [.ref x0, .int 5, .int r3, .int r9] M8 (fun r M10 => mE M8 M10 → ∃ r11 : Int32, r = some (.int r11) ∧ DX8_watch_48 h x0 6 r11 M10 Q)) ∧
  (¬ (x2 = 0) → E h mdX8_pair [.ref x0, .int 5, .int r9, .int r3] M8 (fun r M12 => mE M8 M12 → ∃ r13 : Int32, r = some (.int r13) ∧ DX8_watch_48 h x0 6 r13 M12 Q))))))
set_option maxRecDepth 20000 in
set_option maxHeartbeats 2000000 in
theorem VX8_watch_0 {h : Nat} {x0 : Nat} {x1 : Int32} {x2 : Int32} {M : Mem} {Q : Option Value → Mem → Prop} (H : DX8_watch_0 h x0 x1 x2 M Q) : T (h + 1) mdX8_watch 0 [(0, .ref x0), (1, .int x1), (2, .int x2)] [] M Q := by
  unfold DX8_watch_0 at H
  refine xt_aload_n (j := 0) dX8_watch_0 rfl rfl ?_
  obtain ⟨ho1, H⟩ := H
  refine xt_callV (h2 := h) (as := []) (st := []) dX8_watch_1 (mlX8_68 rfl) rfl ho1.1 ⟨by rw [ho1.2]; rfl, by rw [ho1.2]; decide⟩ (by first | decide | (simp [Value.category]; done)) (Nat.le_refl _) H (fun r M2 HH hE => ?_)
  obtain ⟨r3, hr, H⟩ := HH hE
  subst hr
  have ho1 := ok_E ho1 hE
  show T _ _ _ _ [.int r3] _ _
  refine xt_istore_n (lv' := [(3, .int r3), (0, .ref x0), (1, .int x1), (2, .int x2)]) dX8_watch_4 rfl (by decide) rfl ?_
  refine xt_aload_n (j := 1) dX8_watch_5 rfl rfl ?_
  refine xt_iload_n (j := 2) dX8_watch_6 rfl rfl ?_
  refine xt_aload_n (j := 1) dX8_watch_7 rfl rfl ?_
  refine xt_iconst (v := 0) dX8_watch_8 (by decide) ?_
  refine xt_callV (h2 := h) (as := [.int 0]) (st := [.int x1, .ref x0]) dX8_watch_9 (mlX8_79 rfl) rfl ho1.1 ⟨by rw [ho1.2]; rfl, by rw [ho1.2]; decide⟩ (by first | decide | (simp [Value.category]; done)) (Nat.le_refl _) H (fun r M4 HH hE => ?_)
  obtain ⟨r5, hr, H⟩ := HH hE
  subst hr
  have ho1 := ok_E ho1 hE
  show T _ _ _ _ [.int r5, .int x1, .ref x0] _ _
  refine xt_aload_n (j := 1) dX8_watch_12 rfl rfl ?_
  refine xt_iconst (v := 0) dX8_watch_13 (by decide) ?_
  refine xt_callV (h2 := h) (as := [.int 0]) (st := [.int r5, .int x1, .ref x0]) dX8_watch_14 (mlX8_58 rfl) rfl ho1.1 ⟨by rw [ho1.2]; rfl, by rw [ho1.2]; decide⟩ (by first | decide | (simp [Value.category]; done)) (Nat.le_refl _) H (fun r M6 HH hE => ?_)
  obtain ⟨r7, hr, H⟩ := HH hE
  subst hr
  have ho1 := ok_E ho1 hE
  show T _ _ _ _ [.int r7, .int r5, .int x1, .ref x0] _ _
  refine xt_callV (h2 := h) (as := [.int x1, .int r5, .int r7]) (st := []) dX8_watch_17 (mlX8_82 rfl) rfl ho1.1 ⟨by rw [ho1.2]; rfl, by rw [ho1.2]; decide⟩ (by first | decide | (simp [Value.category]; done)) (Nat.le_refl _) H (fun r M8 HH hE => ?_)
  obtain ⟨r9, hr, H⟩ := HH hE
  subst hr
  have ho1 := ok_E ho1 hE
  show T _ _ _ _ [.int r9] _ _
  refine xt_istore (lv' := [(4, .int r9), (3, .int r3), (0, .ref x0), (1, .int x1), (2, .int x2)]) dX8_watch_20 (by decide) rfl ?_
  refine xt_aload_n (j := 2) dX8_watch_22 rfl rfl ?_
  refine xt_bipush (v := 6) dX8_watch_23 (by decide) ?_
  refine xt_iload_n (j := 4) dX8_watch_25 rfl rfl ?_
  refine xt_if_eq (tgt := 40) dX8_watch_26 (by decide) (fun hc => ?_) (fun hc => ?_)
  · have H := H.1 hc
    refine xt_aload_n (j := 2) dX8_watch_40 rfl rfl ?_
    refine xt_iconst (v := 5) dX8_watch_41 (by decide) ?_
    refine xt_iload_n (j := 1) dX8_watch_42 rfl rfl ?_
    refine xt_iload (j := 0) dX8_watch_43 rfl ?_
    refine xt_callV (h2 := h) (as := [.int 5, .int r3, .int r9]) (st := [.int 6, .ref x0]) dX8_watch_45 (mlX8_75 rfl) rfl ho1.1 ⟨by rw [ho1.2]; rfl, by rw [ho1.2]; decide⟩ (by first | decide | (simp [Value.category]; done)) (Nat.le_refl _) H (fun r M10 HH hE => ?_)
    obtain ⟨r11, hr, H⟩ := HH hE
    subst hr
    have ho1 := ok_E ho1 hE
    show T _ _ _ _ [.int r11, .int 6, .ref x0] _ _
    exact xt_sub [] rfl (VX8_watch_48 H)
  · have H := H.2 hc
    refine xt_aload_n (j := 2) dX8_watch_29 rfl rfl ?_
    refine xt_iconst (v := 5) dX8_watch_30 (by decide) ?_
    refine xt_iload (j := 0) dX8_watch_31 rfl ?_
    refine xt_iload_n (j := 1) dX8_watch_33 rfl rfl ?_
    refine xt_callV (h2 := h) (as := [.int 5, .int r9, .int r3]) (st := [.int 6, .ref x0]) dX8_watch_34 (mlX8_75 rfl) rfl ho1.1 ⟨by rw [ho1.2]; rfl, by rw [ho1.2]; decide⟩ (by first | decide | (simp [Value.category]; done)) (Nat.le_refl _) H (fun r M12 HH hE => ?_)
    obtain ⟨r13, hr, H⟩ := HH hE
    subst hr
    have ho1 := ok_E ho1 hE
    show T _ _ _ _ [.int r13, .int 6, .ref x0] _ _
    refine xt_goto (tgt := 48) dX8_watch_37 (by decide) ?_
    exact xt_sub [] rfl (VX8_watch_48 H)
theorem KX8_watch {h : Nat} {x0 : Nat} {x1 : Int32} {x2 : Int32} {M : Mem} {Q : Option Value → Mem → Prop} (H : DX8_watch_0 h x0 x1 x2 M Q) : E (h + 1) mdX8_watch [.ref x0, .int x1, .int x2] M Q := E.of (by decide) (Nat.le_of_ble_eq_true rfl) (fun _ _ _ => trivial) (VX8_watch_0 H)
def DX8_await_0 (h : Nat) (x0 : Nat) (x1 : Int32) (x2 : Int32) (M : Mem) (Q : Option Value → Mem → Prop) : Prop :=
  ok M x0 10 ∧ E h mdX8_watch [.ref x0, .int x1, .int x2] M (fun r M2 => mE M M2 → ∃ r3 : Int32, r = some (.int r3) ∧ E h mdX8_wrap [.ref x0, .int 9, .int r3] M2 (fun r M4 => mE M2 M4 → ∃ r5 : Int32, r = some (.int r5) ∧ Q (some (.int r5)) M4))
set_option maxRecDepth 20000 in
set_option maxHeartbeats 2000000 in
theorem VX8_await_0 {h : Nat} {x0 : Nat} {x1 : Int32} {x2 : Int32} {M : Mem} {Q : Option Value → Mem → Prop} (H : DX8_await_0 h x0 x1 x2 M Q) : T (h + 1) mdX8_await 0 [(0, .ref x0), (1, .int x1), (2, .int x2)] [] M Q := by
  unfold DX8_await_0 at H
  refine xt_aload_n (j := 0) dX8_await_0 rfl rfl ?_
  refine xt_bipush (v := 9) dX8_await_1 (by decide) ?_
  refine xt_aload_n (j := 0) dX8_await_3 rfl rfl ?_
  refine xt_iload_n (j := 1) dX8_await_4 rfl rfl ?_
  refine xt_iload_n (j := 2) dX8_await_5 rfl rfl ?_
  obtain ⟨ho1, H⟩ := H
  refine xt_callV (h2 := h) (as := [.int x1, .int x2]) (st := [.int 9, .ref x0]) dX8_await_6 (mlX8_85 rfl) rfl ho1.1 ⟨by rw [ho1.2]; rfl, by rw [ho1.2]; decide⟩ (by first | decide | (simp [Value.category]; done)) (Nat.le_refl _) H (fun r M2 HH hE => ?_)
  obtain ⟨r3, hr, H⟩ := HH hE
  subst hr
  have ho1 := ok_E ho1 hE
  show T _ _ _ _ [.int r3, .int 9, .ref x0] _ _
  refine xt_callV (h2 := h) (as := [.int 9, .int r3]) (st := []) dX8_await_9 (mlX8_65 rfl) rfl ho1.1 ⟨by rw [ho1.2]; rfl, by rw [ho1.2]; decide⟩ (by first | decide | (simp [Value.category]; done)) (Nat.le_refl _) H (fun r M4 HH hE => ?_)
  obtain ⟨r5, hr, H⟩ := HH hE
  subst hr
  have ho1 := ok_E ho1 hE
  show T _ _ _ _ [.int r5] _ _
  exact xt_ireturn dX8_await_12 rfl H
theorem KX8_await {h : Nat} {x0 : Nat} {x1 : Int32} {x2 : Int32} {M : Mem} {Q : Option Value → Mem → Prop} (H : DX8_await_0 h x0 x1 x2 M Q) : E (h + 1) mdX8_await [.ref x0, .int x1, .int x2] M Q := E.of (by decide) (Nat.le_of_ble_eq_true rfl) (fun _ _ _ => trivial) (VX8_await_0 H)
def DX8_abort_0 (h : Nat) (x0 : Nat) (x1 : Int32) (x2 : Int32) (M : Mem) (Q : Option Value → Mem → Prop) : Prop :=
  ok M x0 10 ∧ E h mdX8_suspend [.ref x0, .int x1, .int x2] M (fun r M2 => mE M M2 → ∃ r3 : Int32, r = some (.int r3) ∧ E h mdX8_weak [.ref x0, .int r3, .int x2, .int 0] M2 (fun r M4 => mE M2 M4 → ∃ r5 : Int32, r = some (.int r5) ∧ Q (some (.int r5)) M4))
set_option maxRecDepth 20000 in
set_option maxHeartbeats 2000000 in
theorem VX8_abort_0 {h : Nat} {x0 : Nat} {x1 : Int32} {x2 : Int32} {M : Mem} {Q : Option Value → Mem → Prop} (H : DX8_abort_0 h x0 x1 x2 M Q) : T (h + 1) mdX8_abort 0 [(0, .ref x0), (1, .int x1), (2, .int x2)] [] M Q := by
  unfold DX8_abort_0 at H
  refine xt_aload_n (j := 0) dX8_abort_0 rfl rfl ?_
  refine xt_aload_n (j := 0) dX8_abort_1 rfl rfl ?_
  refine xt_iload_n (j := 1) dX8_abort_2 rfl rfl ?_
  refine xt_iload_n (j := 2) dX8_abort_3 rfl rfl ?_
  obtain ⟨ho1, H⟩ := H
  refine xt_callV (h2 := h) (as := [.int x1, .int x2]) (st := [.ref x0]) dX8_abort_4 (mlX8_89 rfl) rfl ho1.1 ⟨by rw [ho1.2]; rfl, by rw [ho1.2]; decide⟩ (by first | decide | (simp [Value.category]; done)) (Nat.le_refl _) H (fun r M2 HH hE => ?_)
  obtain ⟨r3, hr, H⟩ := HH hE
  subst hr
  have ho1 := ok_E ho1 hE
  show T _ _ _ _ [.int r3, .ref x0] _ _
  refine xt_iload_n (j := 2) dX8_abort_7 rfl rfl ?_
  refine xt_iconst (v := 0) dX8_abort_8 (by decide) ?_
  refine xt_callV (h2 := h) (as := [.int r3, .int x2, .int 0]) (st := []) dX8_abort_9 (mlX8_92 rfl) rfl ho1.1 ⟨by rw [ho1.2]; rfl, by rw [ho1.2]; decide⟩ (by first | decide | (simp [Value.category]; done)) (Nat.le_refl _) H (fun r M4 HH hE => ?_)
  obtain ⟨r5, hr, H⟩ := HH hE
  subst hr
  have ho1 := ok_E ho1 hE
  show T _ _ _ _ [.int r5] _ _
  exact xt_ireturn dX8_abort_12 rfl H
theorem KX8_abort {h : Nat} {x0 : Nat} {x1 : Int32} {x2 : Int32} {M : Mem} {Q : Option Value → Mem → Prop} (H : DX8_abort_0 h x0 x1 x2 M Q) : E (h + 1) mdX8_abort [.ref x0, .int x1, .int x2] M Q := E.of (by decide) (Nat.le_of_ble_eq_true rfl) (fun _ _ _ => trivial) (VX8_abort_0 H)
def DX8_weak_0 (h : Nat) (x0 : Nat) (x1 : Int32) (x2 : Int32) (x3 : Int32) (M : Mem) (Q : Option Value → Mem → Prop) : Prop :=
  ok M x0 10 ∧ E h mdX8_exit [.ref x0, .int 0] M (fun r M2 => mE M M2 → ∃ r3 : Int32, r = some (.int r3) ∧ E h mdX8_pair [.ref x0, .int 5, .int x1, .int r3] M2 (fun r M4 => mE M2 M4 → ∃ r5 : Int32, r = some (.int r5) ∧ E h mdX8_watch [.ref x0, .int x2, .int x3] M4 (fun r M6 => mE M4 M6 → ∃ r7 : Int32, r = some (.int r7) ∧ E h mdX8_pair [.ref x0, .int 8, .int r5, .int r7] M6 (fun r M8 => mE M6 M8 → ∃ r9 : Int32, r = some (.int r9) ∧ E h mdX8_wrap [.ref x0, .int 9, .int r9] M8 (fun r M10 => mE M8 M10 → ∃ r11 : Int32, r = some (.int r11) ∧ Q (some (.int r11)) M10)))))
set_option maxRecDepth 20000 in
set_option maxHeartbeats 2000000 in
theorem VX8_weak_0 {h : Nat} {x0 : Nat} {x1 : Int32} {x2 : Int32} {x3 : Int32} {M : Mem} {Q : Option Value → Mem → Prop} (H : DX8_weak_0 h x0 x1 x2 x3 M Q) : T (h + 1) mdX8_weak 0 [(0, .ref x0), (1, .int x1), (2, .int x2), (3, .int x3)] [] M Q := by
  unfold DX8_weak_0 at H
  refine xt_aload_n (j := 0) dX8_weak_0 rfl rfl ?_
  refine xt_iconst (v := 5) dX8_weak_1 (by decide) ?_
  refine xt_iload_n (j := 1) dX8_weak_2 rfl rfl ?_
  refine xt_aload_n (j := 0) dX8_weak_3 rfl rfl ?_
  refine xt_iconst (v := 0) dX8_weak_4 (by decide) ?_
  obtain ⟨ho1, H⟩ := H
  refine xt_callV (h2 := h) (as := [.int 0]) (st := [.int x1, .int 5, .ref x0]) dX8_weak_5 (mlX8_79 rfl) rfl ho1.1 ⟨by rw [ho1.2]; rfl, by rw [ho1.2]; decide⟩ (by first | decide | (simp [Value.category]; done)) (Nat.le_refl _) H (fun r M2 HH hE => ?_)
  obtain ⟨r3, hr, H⟩ := HH hE
  subst hr
  have ho1 := ok_E ho1 hE
  show T _ _ _ _ [.int r3, .int x1, .int 5, .ref x0] _ _
  refine xt_callV (h2 := h) (as := [.int 5, .int x1, .int r3]) (st := []) dX8_weak_8 (mlX8_75 rfl) rfl ho1.1 ⟨by rw [ho1.2]; rfl, by rw [ho1.2]; decide⟩ (by first | decide | (simp [Value.category]; done)) (Nat.le_refl _) H (fun r M4 HH hE => ?_)
  obtain ⟨r5, hr, H⟩ := HH hE
  subst hr
  have ho1 := ok_E ho1 hE
  show T _ _ _ _ [.int r5] _ _
  refine xt_istore (lv' := [(4, .int r5), (0, .ref x0), (1, .int x1), (2, .int x2), (3, .int x3)]) dX8_weak_11 (by decide) rfl ?_
  refine xt_aload_n (j := 1) dX8_weak_13 rfl rfl ?_
  refine xt_bipush (v := 9) dX8_weak_14 (by decide) ?_
  refine xt_aload_n (j := 1) dX8_weak_16 rfl rfl ?_
  refine xt_bipush (v := 8) dX8_weak_17 (by decide) ?_
  refine xt_iload (j := 0) dX8_weak_19 rfl ?_
  refine xt_aload_n (j := 1) dX8_weak_21 rfl rfl ?_
  refine xt_iload_n (j := 3) dX8_weak_22 rfl rfl ?_
  refine xt_iload_n (j := 4) dX8_weak_23 rfl rfl ?_
  refine xt_callV (h2 := h) (as := [.int x2, .int x3]) (st := [.int r5, .int 8, .ref x0, .int 9, .ref x0]) dX8_weak_24 (mlX8_85 rfl) rfl ho1.1 ⟨by rw [ho1.2]; rfl, by rw [ho1.2]; decide⟩ (by first | decide | (simp [Value.category]; done)) (Nat.le_refl _) H (fun r M6 HH hE => ?_)
  obtain ⟨r7, hr, H⟩ := HH hE
  subst hr
  have ho1 := ok_E ho1 hE
  show T _ _ _ _ [.int r7, .int r5, .int 8, .ref x0, .int 9, .ref x0] _ _
  refine xt_callV (h2 := h) (as := [.int 8, .int r5, .int r7]) (st := [.int 9, .ref x0]) dX8_weak_27 (mlX8_75 rfl) rfl ho1.1 ⟨by rw [ho1.2]; rfl, by rw [ho1.2]; decide⟩ (by first | decide | (simp [Value.category]; done)) (Nat.le_refl _) H (fun r M8 HH hE => ?_)
  obtain ⟨r9, hr, H⟩ := HH hE
  subst hr
  have ho1 := ok_E ho1 hE
  show T _ _ _ _ [.int r9, .int 9, .ref x0] _ _
  refine xt_callV (h2 := h) (as := [.int 9, .int r9]) (st := []) dX8_weak_30 (mlX8_65 rfl) rfl ho1.1 ⟨by rw [ho1.2]; rfl, by rw [ho1.2]; decide⟩ (by first | decide | (simp [Value.category]; done)) (Nat.le_refl _) H (fun r M10 HH hE => ?_)
  obtain ⟨r11, hr, H⟩ := HH hE
  subst hr
  have ho1 := ok_E ho1 hE
  show T _ _ _ _ [.int r11] _ _
  exact xt_ireturn dX8_weak_33 rfl H
theorem KX8_weak {h : Nat} {x0 : Nat} {x1 : Int32} {x2 : Int32} {x3 : Int32} {M : Mem} {Q : Option Value → Mem → Prop} (H : DX8_weak_0 h x0 x1 x2 x3 M Q) : E (h + 1) mdX8_weak [.ref x0, .int x1, .int x2, .int x3] M Q := E.of (by decide) (Nat.le_of_ble_eq_true rfl) (fun _ _ _ => trivial) (VX8_weak_0 H)
def DX9_init_0 (h : Nat) (x0 : Nat) (x1 : Nat) (M : Mem) (Q : Option Value → Mem → Prop) : Prop :=
  ¬ (640 : Int32) < 0 ∧ ((640 : Int32).toNatClampNeg ≤ 100000000) ∧ ∀ (q2 : Nat) (M1 : Mem), q2 = mN M → M1 = nwA M 21 ((640 : Int32).toNatClampNeg) →
  ok M1 x0 11 ∧ ∀ M4 : Mem, M4 = wR M1 x0 1 (some q2) →
  ¬ (640 : Int32) < 0 ∧ ((640 : Int32).toNatClampNeg ≤ 100000000) ∧ ∀ (q6 : Nat) (M5 : Mem), q6 = mN M4 → M5 = nwA M4 21 ((640 : Int32).toNatClampNeg) →
  ∀ M7 : Mem, M7 = wR M5 x0 2 (some q6) →
  ¬ (640 : Int32) < 0 ∧ ((640 : Int32).toNatClampNeg ≤ 100000000) ∧ ∀ (q9 : Nat) (M8 : Mem), q9 = mN M7 → M8 = nwA M7 21 ((640 : Int32).toNatClampNeg) →
  ∀ M10 : Mem, M10 = wR M8 x0 3 (some q9) →
  ¬ (640 : Int32) < 0 ∧ ((640 : Int32).toNatClampNeg ≤ 100000000) ∧ ∀ (q12 : Nat) (M11 : Mem), q12 = mN M10 → M11 = nwA M10 21 ((640 : Int32).toNatClampNeg) →
  ∀ M13 : Mem, M13 = wR M11 x0 4 (some q12) →
  ¬ (640 : Int32) < 0 ∧ ((640 : Int32).toNatClampNeg ≤ 100000000) ∧ ∀ (q15 : Nat) (M14 : Mem), q15 = mN M13 → M14 = nwA M13 21 ((640 : Int32).toNatClampNeg) →
  ∀ M16 : Mem, M16 = wR M14 x0 5 (some q15) →
  ¬ (640 : Int32) < 0 ∧ ((640 : Int32).toNatClampNeg ≤ 100000000) ∧ ∀ (q18 : Nat) (M17 : Mem), q18 = mN M16 → M17 = nwA M16 21 ((640 : Int32).toNatClampNeg) →
  ∀ M19 : Mem, M19 = wR M17 x0 6 (some q18) →
  ¬ (12800 : Int32) < 0 ∧ ((12800 : Int32).toNatClampNeg ≤ 100000000) ∧ ∀ (q21 : Nat) (M20 : Mem), q21 = mN M19 → M20 = nwA M19 21 ((12800 : Int32).toNatClampNeg) →
  ∀ M22 : Mem, M22 = wR M20 x0 7 (some q21) →
  ∀ M23 : Mem, M23 = wR M22 x0 0 (some x1) →
  Q none M23
set_option maxRecDepth 20000 in
set_option maxHeartbeats 2000000 in
theorem VX9_init_0 {h : Nat} {x0 : Nat} {x1 : Nat} {M : Mem} {Q : Option Value → Mem → Prop} (H : DX9_init_0 h x0 x1 M Q) : T (h + 1) mdX9_init 0 [(0, .ref x0), (1, .ref x1)] [] M Q := by
  unfold DX9_init_0 at H
  refine xt_aload_n (j := 0) dX9_init_0 rfl rfl ?_
  refine xt_objInit dX9_init_1 (oiX9_1 rfl) (by decide) (Nat.succ_le_succ (Nat.zero_le _)) ?_
  refine xt_aload_n (j := 0) dX9_init_4 rfl rfl ?_
  refine xt_sipush (v := 640) dX9_init_5 (by decide) ?_
  obtain ⟨hn, hy, H⟩ := H
  obtain ⟨M1, eM1⟩ : ∃ z, z = nwA M 21 ((640 : Int32).toNatClampNeg) := ⟨_, rfl⟩
  obtain ⟨q2, eq2⟩ : ∃ z, z = mN M := ⟨_, rfl⟩
  have H := H _ _ eq2 eM1
  refine xt_newI dX9_init_8 ac_I hn rfl hy ?_
  rw [← eM1, ← eq2]
  obtain ⟨ho3, H⟩ := H
  obtain ⟨M4, eM4⟩ : ∃ z, z = wR M1 x0 1 (some q2) := ⟨_, rfl⟩
  have H := H _ eM4
  refine xt_putR dX9_init_10 (flX9_9 rfl) ft_11_1 rfl ho3.1 ho3.2 ?_
  have ho3 : ok M4 x0 11 := by rw [eM4]; exact ho3
  rw [← eM4]
  refine xt_aload_n (j := 0) dX9_init_13 rfl rfl ?_
  refine xt_sipush (v := 640) dX9_init_14 (by decide) ?_
  obtain ⟨hn, hy, H⟩ := H
  obtain ⟨M5, eM5⟩ : ∃ z, z = nwA M4 21 ((640 : Int32).toNatClampNeg) := ⟨_, rfl⟩
  obtain ⟨q6, eq6⟩ : ∃ z, z = mN M4 := ⟨_, rfl⟩
  have H := H _ _ eq6 eM5
  refine xt_newI dX9_init_17 ac_I hn rfl hy ?_
  have ho3 : ok M5 x0 11 := by rw [eM5]; exact ok_nwA ho3
  rw [← eM5, ← eq6]
  obtain ⟨M7, eM7⟩ : ∃ z, z = wR M5 x0 2 (some q6) := ⟨_, rfl⟩
  have H := H _ eM7
  refine xt_putR dX9_init_19 (flX9_15 rfl) ft_11_2 rfl ho3.1 ho3.2 ?_
  have ho3 : ok M7 x0 11 := by rw [eM7]; exact ho3
  rw [← eM7]
  refine xt_aload_n (j := 0) dX9_init_22 rfl rfl ?_
  refine xt_sipush (v := 640) dX9_init_23 (by decide) ?_
  obtain ⟨hn, hy, H⟩ := H
  obtain ⟨M8, eM8⟩ : ∃ z, z = nwA M7 21 ((640 : Int32).toNatClampNeg) := ⟨_, rfl⟩
  obtain ⟨q9, eq9⟩ : ∃ z, z = mN M7 := ⟨_, rfl⟩
  have H := H _ _ eq9 eM8
  refine xt_newI dX9_init_26 ac_I hn rfl hy ?_
  have ho3 : ok M8 x0 11 := by rw [eM8]; exact ok_nwA ho3
  rw [← eM8, ← eq9]
  obtain ⟨M10, eM10⟩ : ∃ z, z = wR M8 x0 3 (some q9) := ⟨_, rfl⟩
  have H := H _ eM10
  refine xt_putR dX9_init_28 (flX9_18 rfl) ft_11_3 rfl ho3.1 ho3.2 ?_
  have ho3 : ok M10 x0 11 := by rw [eM10]; exact ho3
  rw [← eM10]
  refine xt_aload_n (j := 0) dX9_init_31 rfl rfl ?_
  refine xt_sipush (v := 640) dX9_init_32 (by decide) ?_
  obtain ⟨hn, hy, H⟩ := H
  obtain ⟨M11, eM11⟩ : ∃ z, z = nwA M10 21 ((640 : Int32).toNatClampNeg) := ⟨_, rfl⟩
  obtain ⟨q12, eq12⟩ : ∃ z, z = mN M10 := ⟨_, rfl⟩
  have H := H _ _ eq12 eM11
  refine xt_newI dX9_init_35 ac_I hn rfl hy ?_
  have ho3 : ok M11 x0 11 := by rw [eM11]; exact ok_nwA ho3
  rw [← eM11, ← eq12]
  obtain ⟨M13, eM13⟩ : ∃ z, z = wR M11 x0 4 (some q12) := ⟨_, rfl⟩
  have H := H _ eM13
  refine xt_putR dX9_init_37 (flX9_21 rfl) ft_11_4 rfl ho3.1 ho3.2 ?_
  have ho3 : ok M13 x0 11 := by rw [eM13]; exact ho3
  rw [← eM13]
  refine xt_aload_n (j := 0) dX9_init_40 rfl rfl ?_
  refine xt_sipush (v := 640) dX9_init_41 (by decide) ?_
  obtain ⟨hn, hy, H⟩ := H
  obtain ⟨M14, eM14⟩ : ∃ z, z = nwA M13 21 ((640 : Int32).toNatClampNeg) := ⟨_, rfl⟩
  obtain ⟨q15, eq15⟩ : ∃ z, z = mN M13 := ⟨_, rfl⟩
  have H := H _ _ eq15 eM14
  refine xt_newI dX9_init_44 ac_I hn rfl hy ?_
  have ho3 : ok M14 x0 11 := by rw [eM14]; exact ok_nwA ho3
  rw [← eM14, ← eq15]
  obtain ⟨M16, eM16⟩ : ∃ z, z = wR M14 x0 5 (some q15) := ⟨_, rfl⟩
  have H := H _ eM16
  refine xt_putR dX9_init_46 (flX9_24 rfl) ft_11_5 rfl ho3.1 ho3.2 ?_
  have ho3 : ok M16 x0 11 := by rw [eM16]; exact ho3
  rw [← eM16]
  refine xt_aload_n (j := 0) dX9_init_49 rfl rfl ?_
  refine xt_sipush (v := 640) dX9_init_50 (by decide) ?_
  obtain ⟨hn, hy, H⟩ := H
  obtain ⟨M17, eM17⟩ : ∃ z, z = nwA M16 21 ((640 : Int32).toNatClampNeg) := ⟨_, rfl⟩
  obtain ⟨q18, eq18⟩ : ∃ z, z = mN M16 := ⟨_, rfl⟩
  have H := H _ _ eq18 eM17
  refine xt_newI dX9_init_53 ac_I hn rfl hy ?_
  have ho3 : ok M17 x0 11 := by rw [eM17]; exact ok_nwA ho3
  rw [← eM17, ← eq18]
  obtain ⟨M19, eM19⟩ : ∃ z, z = wR M17 x0 6 (some q18) := ⟨_, rfl⟩
  have H := H _ eM19
  refine xt_putR dX9_init_55 (flX9_27 rfl) ft_11_6 rfl ho3.1 ho3.2 ?_
  have ho3 : ok M19 x0 11 := by rw [eM19]; exact ho3
  rw [← eM19]
  refine xt_aload_n (j := 0) dX9_init_58 rfl rfl ?_
  refine xt_sipush (v := 12800) dX9_init_59 (by decide) ?_
  obtain ⟨hn, hy, H⟩ := H
  obtain ⟨M20, eM20⟩ : ∃ z, z = nwA M19 21 ((12800 : Int32).toNatClampNeg) := ⟨_, rfl⟩
  obtain ⟨q21, eq21⟩ : ∃ z, z = mN M19 := ⟨_, rfl⟩
  have H := H _ _ eq21 eM20
  refine xt_newI dX9_init_62 ac_I hn rfl hy ?_
  have ho3 : ok M20 x0 11 := by rw [eM20]; exact ok_nwA ho3
  rw [← eM20, ← eq21]
  obtain ⟨M22, eM22⟩ : ∃ z, z = wR M20 x0 7 (some q21) := ⟨_, rfl⟩
  have H := H _ eM22
  refine xt_putR dX9_init_64 (flX9_30 rfl) ft_11_7 rfl ho3.1 ho3.2 ?_
  have ho3 : ok M22 x0 11 := by rw [eM22]; exact ho3
  rw [← eM22]
  refine xt_aload_n (j := 0) dX9_init_67 rfl rfl ?_
  refine xt_aload_n (j := 1) dX9_init_68 rfl rfl ?_
  obtain ⟨M23, eM23⟩ : ∃ z, z = wR M22 x0 0 (some x1) := ⟨_, rfl⟩
  have H := H _ eM23
  refine xt_putR dX9_init_69 (flX9_33 rfl) ft_11_0 rfl ho3.1 ho3.2 ?_
  have ho3 : ok M23 x0 11 := by rw [eM23]; exact ho3
  rw [← eM23]
  exact xt_return dX9_init_72 rfl H
theorem KX9_init {h : Nat} {x0 : Nat} {x1 : Nat} {M : Mem} {Q : Option Value → Mem → Prop} (H : DX9_init_0 h x0 x1 M Q) : E (h + 1) mdX9_init [.ref x0, .ref x1] M Q := E.of (by decide) (Nat.le_of_ble_eq_true rfl) (fun _ _ _ => trivial) (VX9_init_0 H)
def DX9_weave_137 (h : Nat) (x0 : Nat) (x1 : Nat) (M : Mem) (Q : Option Value → Mem → Prop) : Prop :=
  ok M x0 11 ∧ E h mdX9_finish [.ref x0, .ref x1] M (fun r M2 => mE M M2 → r = none ∧ Q none M2)
set_option maxRecDepth 20000 in
set_option maxHeartbeats 2000000 in
theorem VX9_weave_137 {h : Nat} {x0 : Nat} {x1 : Nat} {M : Mem} {Q : Option Value → Mem → Prop} (H : DX9_weave_137 h x0 x1 M Q) : T (h + 1) mdX9_weave 137 [(0, .ref x0), (1, .ref x1)] [] M Q := by
  unfold DX9_weave_137 at H
  refine xt_aload_n (j := 0) dX9_weave_137 rfl rfl ?_
  refine xt_aload_n (j := 1) dX9_weave_138 rfl rfl ?_
  obtain ⟨ho1, H⟩ := H
  refine xt_callV (h2 := h) (as := [.ref x1]) (st := []) dX9_weave_139 (mlX9_76 rfl) rfl ho1.1 ⟨by rw [ho1.2]; rfl, by rw [ho1.2]; decide⟩ (by first | decide | (simp [Value.category]; done)) (Nat.le_refl _) H (fun r M2 HH hE => ?_)
  obtain ⟨hr, H⟩ := HH hE
  subst hr
  have ho1 := ok_E ho1 hE
  show T _ _ _ _ [] _ _
  exact xt_return dX9_weave_142 rfl H
def DX9_weave_131 (h : Nat) (x0 : Nat) (x1 : Nat) (x2 : Int32) (x3 : Int32) (x4 : Int32) (M : Mem) (Q : Option Value → Mem → Prop) : Prop :=
  T (h + 1) mdX9_weave 19 [(0, .ref x0), (1, .ref x1), (2, .int x2), (3, .int x3), (4, .int (x4 + 1))] [] M Q
set_option maxRecDepth 20000 in
set_option maxHeartbeats 2000000 in
theorem VX9_weave_131 {h : Nat} {x0 : Nat} {x1 : Nat} {x2 : Int32} {x3 : Int32} {x4 : Int32} {M : Mem} {Q : Option Value → Mem → Prop} (H : DX9_weave_131 h x0 x1 x2 x3 x4 M Q) : T (h + 1) mdX9_weave 131 [(0, .ref x0), (1, .ref x1), (2, .int x2), (3, .int x3), (4, .int x4)] [] M Q := by
  unfold DX9_weave_131 at H
  refine xt_iinc (j := 4) (v := x4 + 1) (lv' := [(4, .int (x4 + 1)), (0, .ref x0), (1, .ref x1), (2, .int x2), (3, .int x3)]) dX9_weave_131 rfl (by rfl) (by decide) rfl ?_
  refine xt_goto (tgt := 19) dX9_weave_134 (by decide) ?_
  exact xt_sub (lv' := [(0, .ref x0), (1, .ref x1), (2, .int x2), (3, .int x3), (4, .int (x4 + 1))]) [1, 2, 3, 4, 0] rfl H
def DX9_weave_118 (h : Nat) (x0 : Nat) (x1 : Nat) (x2 : Int32) (x4 : Int32) (x5 : Int32) (s0 : Int32) (M : Mem) (Q : Option Value → Mem → Prop) : Prop :=
  (s0 = 0 → DX9_weave_131 h x0 x1 x2 s0 x4 M Q) ∧
  (¬ (s0 = 0) → ok M x0 11 ∧ E h mdX9_arrive [.ref x0, .int x5] M (fun r M2 => mE M M2 → r = none ∧ DX9_weave_131 h x0 x1 x5 s0 x4 M2 Q))
set_option maxRecDepth 20000 in
set_option maxHeartbeats 2000000 in
theorem VX9_weave_118 {h : Nat} {x0 : Nat} {x1 : Nat} {x2 : Int32} {x4 : Int32} {x5 : Int32} {s0 : Int32} {M : Mem} {Q : Option Value → Mem → Prop} (H : DX9_weave_118 h x0 x1 x2 x4 x5 s0 M Q) : T (h + 1) mdX9_weave 118 [(0, .ref x0), (1, .ref x1), (2, .int x2), (4, .int x4), (5, .int x5)] [.int s0] M Q := by
  unfold DX9_weave_118 at H
  refine xt_istore_n (lv' := [(3, .int s0), (0, .ref x0), (1, .ref x1), (2, .int x2), (4, .int x4), (5, .int x5)]) dX9_weave_118 rfl (by decide) rfl ?_
  refine xt_iload_n (j := 0) dX9_weave_119 rfl rfl ?_
  refine xt_if_eq (tgt := 131) dX9_weave_120 (by decide) (fun hc => ?_) (fun hc => ?_)
  · have H := H.1 hc
    exact xt_sub [1, 2, 3, 0, 4] rfl (VX9_weave_131 H)
  · have H := H.2 hc
    refine xt_iload (j := 5) dX9_weave_123 rfl ?_
    refine xt_istore_n (lv' := [(2, .int x5), (3, .int s0), (0, .ref x0), (1, .ref x1), (4, .int x4), (5, .int x5)]) dX9_weave_125 rfl (by decide) rfl ?_
    refine xt_aload_n (j := 2) dX9_weave_126 rfl rfl ?_
    refine xt_iload_n (j := 0) dX9_weave_127 rfl rfl ?_
    obtain ⟨ho1, H⟩ := H
    refine xt_callV (h2 := h) (as := [.int x5]) (st := []) dX9_weave_128 (mlX9_73 rfl) rfl ho1.1 ⟨by rw [ho1.2]; rfl, by rw [ho1.2]; decide⟩ (by first | decide | (simp [Value.category]; done)) (Nat.le_refl _) H (fun r M2 HH hE => ?_)
    obtain ⟨hr, H⟩ := HH hE
    subst hr
    have ho1 := ok_E ho1 hE
    show T _ _ _ _ [] _ _
    exact xt_sub [2, 3, 0, 1, 4] rfl (VX9_weave_131 H)
def DX9_weave_108 (h : Nat) (x0 : Nat) (x1 : Nat) (x2 : Int32) (x4 : Int32) (x5 : Int32) (M : Mem) (Q : Option Value → Mem → Prop) : Prop :=
  (x5 = 0 → DX9_weave_118 h x0 x1 x2 x4 x5 0 M Q) ∧
  (¬ (x5 = 0) → DX9_weave_118 h x0 x1 x2 x4 x5 1 M Q)
set_option maxRecDepth 20000 in
set_option maxHeartbeats 2000000 in
theorem VX9_weave_108 {h : Nat} {x0 : Nat} {x1 : Nat} {x2 : Int32} {x4 : Int32} {x5 : Int32} {M : Mem} {Q : Option Value → Mem → Prop} (H : DX9_weave_108 h x0 x1 x2 x4 x5 M Q) : T (h + 1) mdX9_weave 108 [(0, .ref x0), (1, .ref x1), (2, .int x2), (4, .int x4), (5, .int x5)] [] M Q := by
  unfold DX9_weave_108 at H
  refine xt_iload (j := 4) dX9_weave_108 rfl ?_
  refine xt_if_eq (tgt := 117) dX9_weave_110 (by decide) (fun hc => ?_) (fun hc => ?_)
  · have H := H.1 hc
    refine xt_iconst (v := 0) dX9_weave_117 (by decide) ?_
    exact xt_sub [0, 1, 2, 3, 4] rfl (VX9_weave_118 H)
  · have H := H.2 hc
    refine xt_iconst (v := 1) dX9_weave_113 (by decide) ?_
    refine xt_goto (tgt := 118) dX9_weave_114 (by decide) ?_
    exact xt_sub [0, 1, 2, 3, 4] rfl (VX9_weave_118 H)
def DX9_weave_107 (h : Nat) (x0 : Nat) (x1 : Nat) (x4 : Int32) (x5 : Int32) (s0 : Int32) (M : Mem) (Q : Option Value → Mem → Prop) : Prop :=
  DX9_weave_108 h x0 x1 s0 x4 x5 M Q
set_option maxRecDepth 20000 in
set_option maxHeartbeats 2000000 in
theorem VX9_weave_107 {h : Nat} {x0 : Nat} {x1 : Nat} {x4 : Int32} {x5 : Int32} {s0 : Int32} {M : Mem} {Q : Option Value → Mem → Prop} (H : DX9_weave_107 h x0 x1 x4 x5 s0 M Q) : T (h + 1) mdX9_weave 107 [(0, .ref x0), (1, .ref x1), (4, .int x4), (5, .int x5)] [.int s0] M Q := by
  unfold DX9_weave_107 at H
  refine xt_istore_n (lv' := [(2, .int s0), (0, .ref x0), (1, .ref x1), (4, .int x4), (5, .int x5)]) dX9_weave_107 rfl (by decide) rfl ?_
  exact xt_sub [1, 2, 0, 3, 4] rfl (VX9_weave_108 H)
def DX9_weave_73 (h : Nat) (x0 : Nat) (x1 : Nat) (x2 : Int32) (x4 : Int32) (M : Mem) (Q : Option Value → Mem → Prop) : Prop :=
  ok M x0 11 ∧ E h mdX9_leave [.ref x0, .int x2] M (fun r M2 => mE M M2 → r = none ∧ ∃ b3 : Nat, mR M2 x0 0 = some b3 ∧ ok M2 b3 10 ∧ ∃ b5 : Nat, mR M2 b3 3 = some b5 ∧ ok M2 b5 21 ∧ vp_in x2 (mL M2 b5) ∧ (¬ (mAI M2 b5 (x2 : Int32).toNatClampNeg) = 0 → DX9_weave_107 h x0 x1 x4 (mAI M2 b5 (x2 : Int32).toNatClampNeg) x2 M2 Q) ∧
  ((mAI M2 b5 (x2 : Int32).toNatClampNeg) = 0 → ∃ b7 : Nat, mR M2 x0 0 = some b7 ∧ ok M2 b7 10 ∧ ∃ b9 : Nat, mR M2 b7 4 = some b9 ∧ ok M2 b9 21 ∧ vp_in x2 (mL M2 b9) ∧ DX9_weave_107 h x0 x1 x4 (mAI M2 b5 (x2 : Int32).toNatClampNeg) (mAI M2 b9 (x2 : Int32).toNatClampNeg) M2 Q))
set_option maxRecDepth 20000 in
set_option maxHeartbeats 2000000 in
theorem VX9_weave_73 {h : Nat} {x0 : Nat} {x1 : Nat} {x2 : Int32} {x4 : Int32} {M : Mem} {Q : Option Value → Mem → Prop} (H : DX9_weave_73 h x0 x1 x2 x4 M Q) : T (h + 1) mdX9_weave 73 [(0, .ref x0), (1, .ref x1), (2, .int x2), (4, .int x4)] [] M Q := by
  unfold DX9_weave_73 at H
  refine xt_aload_n (j := 0) dX9_weave_73 rfl rfl ?_
  refine xt_iload_n (j := 2) dX9_weave_74 rfl rfl ?_
  obtain ⟨ho1, H⟩ := H
  refine xt_callV (h2 := h) (as := [.int x2]) (st := []) dX9_weave_75 (mlX9_64 rfl) rfl ho1.1 ⟨by rw [ho1.2]; rfl, by rw [ho1.2]; decide⟩ (by first | decide | (simp [Value.category]; done)) (Nat.le_refl _) H (fun r M2 HH hE => ?_)
  obtain ⟨hr, H⟩ := HH hE
  subst hr
  have ho1 := ok_E ho1 hE
  show T _ _ _ _ [] _ _
  refine xt_aload_n (j := 0) dX9_weave_78 rfl rfl ?_
  obtain ⟨b3, hb, H⟩ := H
  refine xt_getR dX9_weave_79 (flX9_33 rfl) ft_11_0 ho1.1 ho1.2 hb ?_
  obtain ⟨ho4, H⟩ := H
  obtain ⟨b5, hb, H⟩ := H
  refine xt_getR dX9_weave_82 (flX9_67 rfl) ft_10_3 ho4.1 ho4.2 hb ?_
  refine xt_iload_n (j := 2) dX9_weave_85 rfl rfl ?_
  obtain ⟨ho6, H⟩ := H
  obtain ⟨hi, H⟩ := H
  refine xt_iald dX9_weave_86 ho6.1 ho6.2 hi ?_
  refine xt_istore (lv' := [(5, .int (mAI M2 b5 (x2 : Int32).toNatClampNeg)), (0, .ref x0), (1, .ref x1), (2, .int x2), (4, .int x4)]) dX9_weave_87 (by decide) rfl ?_
  refine xt_iload (j := 0) dX9_weave_89 rfl ?_
  refine xt_if_ne (tgt := 106) dX9_weave_91 (by decide) (fun hc => ?_) (fun hc => ?_)
  · have H := H.1 hc
    refine xt_iload_n (j := 3) dX9_weave_106 rfl rfl ?_
    exact xt_sub [1, 2, 4, 0] rfl (VX9_weave_107 H)
  · have H := H.2 hc
    refine xt_aload_n (j := 1) dX9_weave_94 rfl rfl ?_
    obtain ⟨b7, hb, H⟩ := H
    refine xt_getR dX9_weave_95 (flX9_33 rfl) ft_11_0 ho1.1 ho1.2 hb ?_
    obtain ⟨ho8, H⟩ := H
    obtain ⟨b9, hb, H⟩ := H
    refine xt_getR dX9_weave_98 (flX9_70 rfl) ft_10_4 ho8.1 ho8.2 hb ?_
    refine xt_iload_n (j := 3) dX9_weave_101 rfl rfl ?_
    obtain ⟨ho10, H⟩ := H
    obtain ⟨hi, H⟩ := H
    refine xt_iald dX9_weave_102 ho10.1 ho10.2 hi ?_
    refine xt_goto (tgt := 107) dX9_weave_103 (by decide) ?_
    exact xt_sub [1, 2, 4, 0] rfl (VX9_weave_107 H)
def DX9_weave_19 (h : Nat) (x0 : Nat) (x1 : Nat) (x2 : Int32) (x3 : Int32) (x4 : Int32) (M : Mem) (Q : Option Value → Mem → Prop) : Prop :=
  (1280 ≤ x4 → DX9_weave_137 h x0 x1 M Q) ∧
  (¬ (1280 ≤ x4) → (x2 = 0 → DX9_weave_137 h x0 x1 M Q) ∧
  (¬ (x2 = 0) → (x3 = 0 → ok M x0 11 ∧ ∃ b2 : Nat, mR M x0 0 = some b2 ∧ ok M b2 10 ∧ ∃ b4 : Nat, mR M b2 0 = some b4 ∧ ok M b4 21 ∧ vp_in x2 (mL M b4) ∧ (¬ (mAI M b4 (x2 : Int32).toNatClampNeg) = 8 → DX9_weave_73 h x0 x1 x2 x4 M Q) ∧
  ((mAI M b4 (x2 : Int32).toNatClampNeg) = 8 → E h mdX9_joinBranches [.ref x0, .int x2] M (fun r M6 => mE M M6 → r = none ∧ DX9_weave_73 h x0 x1 x2 x4 M6 Q))) ∧
  (¬ (x3 = 0) → ok M x0 11 ∧ E h mdX9_enter [.ref x0, .int x2] M (fun r M8 => mE M M8 → r = none ∧ ∃ b9 : Nat, mR M8 x0 0 = some b9 ∧ ok M8 b9 10 ∧ ∃ b11 : Nat, mR M8 b9 1 = some b11 ∧ ok M8 b11 21 ∧ vp_in x2 (mL M8 b11) ∧ DX9_weave_108 h x0 x1 x2 x4 (mAI M8 b11 (x2 : Int32).toNatClampNeg) M8 Q))))
set_option maxRecDepth 20000 in
set_option maxHeartbeats 2000000 in
theorem VX9_weave_19 {h : Nat} {x0 : Nat} {x1 : Nat} {x2 : Int32} {x3 : Int32} {x4 : Int32} {M : Mem} {Q : Option Value → Mem → Prop} (H : DX9_weave_19 h x0 x1 x2 x3 x4 M Q) : T (h + 1) mdX9_weave 19 [(0, .ref x0), (1, .ref x1), (2, .int x2), (3, .int x3), (4, .int x4)] [] M Q := by
  unfold DX9_weave_19 at H
  refine xt_iload (j := 4) dX9_weave_19 rfl ?_
  refine xt_sipush (v := 1280) dX9_weave_21 (by decide) ?_
  refine xt_icmp_ge (tgt := 137) dX9_weave_24 (by decide) (fun hc => ?_) (fun hc => ?_)
  · have H := H.1 hc
    exact xt_sub [0, 1] rfl (VX9_weave_137 H)
  · have H := H.2 hc
    refine xt_iload_n (j := 2) dX9_weave_27 rfl rfl ?_
    refine xt_if_eq (tgt := 137) dX9_weave_28 (by decide) (fun hc => ?_) (fun hc => ?_)
    · have H := H.1 hc
      exact xt_sub [0, 1] rfl (VX9_weave_137 H)
    · have H := H.2 hc
      refine xt_iload_n (j := 3) dX9_weave_31 rfl rfl ?_
      refine xt_if_eq (tgt := 54) dX9_weave_32 (by decide) (fun hc => ?_) (fun hc => ?_)
      · have H := H.1 hc
        refine xt_aload_n (j := 0) dX9_weave_54 rfl rfl ?_
        obtain ⟨ho1, H⟩ := H
        obtain ⟨b2, hb, H⟩ := H
        refine xt_getR dX9_weave_55 (flX9_33 rfl) ft_11_0 ho1.1 ho1.2 hb ?_
        obtain ⟨ho3, H⟩ := H
        obtain ⟨b4, hb, H⟩ := H
        refine xt_getR dX9_weave_58 (flX9_58 rfl) ft_10_0 ho3.1 ho3.2 hb ?_
        refine xt_iload_n (j := 2) dX9_weave_61 rfl rfl ?_
        obtain ⟨ho5, H⟩ := H
        obtain ⟨hi, H⟩ := H
        refine xt_iald dX9_weave_62 ho5.1 ho5.2 hi ?_
        refine xt_bipush (v := 8) dX9_weave_63 (by decide) ?_
        refine xt_icmp_ne (tgt := 73) dX9_weave_65 (by decide) (fun hc => ?_) (fun hc => ?_)
        · have H := H.1 hc
          exact xt_sub [0, 1, 2, 4] rfl (VX9_weave_73 H)
        · have H := H.2 hc
          refine xt_aload_n (j := 0) dX9_weave_68 rfl rfl ?_
          refine xt_iload_n (j := 2) dX9_weave_69 rfl rfl ?_
          refine xt_callV (h2 := h) (as := [.int x2]) (st := []) dX9_weave_70 (mlX9_61 rfl) rfl ho1.1 ⟨by rw [ho1.2]; rfl, by rw [ho1.2]; decide⟩ (by first | decide | (simp [Value.category]; done)) (Nat.le_refl _) H (fun r M6 HH hE => ?_)
          obtain ⟨hr, H⟩ := HH hE
          subst hr
          have ho1 := ok_E ho1 hE
          show T _ _ _ _ [] _ _
          exact xt_sub [0, 1, 2, 4] rfl (VX9_weave_73 H)
      · have H := H.2 hc
        refine xt_aload_n (j := 0) dX9_weave_35 rfl rfl ?_
        refine xt_iload_n (j := 2) dX9_weave_36 rfl rfl ?_
        obtain ⟨ho7, H⟩ := H
        refine xt_callV (h2 := h) (as := [.int x2]) (st := []) dX9_weave_37 (mlX9_51 rfl) rfl ho7.1 ⟨by rw [ho7.2]; rfl, by rw [ho7.2]; decide⟩ (by first | decide | (simp [Value.category]; done)) (Nat.le_refl _) H (fun r M8 HH hE => ?_)
        obtain ⟨hr, H⟩ := HH hE
        subst hr
        have ho7 := ok_E ho7 hE
        show T _ _ _ _ [] _ _
        refine xt_aload_n (j := 0) dX9_weave_40 rfl rfl ?_
        obtain ⟨b9, hb, H⟩ := H
        refine xt_getR dX9_weave_41 (flX9_33 rfl) ft_11_0 ho7.1 ho7.2 hb ?_
        obtain ⟨ho10, H⟩ := H
        obtain ⟨b11, hb, H⟩ := H
        refine xt_getR dX9_weave_44 (flX9_55 rfl) ft_10_1 ho10.1 ho10.2 hb ?_
        refine xt_iload_n (j := 2) dX9_weave_47 rfl rfl ?_
        obtain ⟨ho12, H⟩ := H
        obtain ⟨hi, H⟩ := H
        refine xt_iald dX9_weave_48 ho12.1 ho12.2 hi ?_
        refine xt_istore (lv' := [(5, .int (mAI M8 b11 (x2 : Int32).toNatClampNeg)), (0, .ref x0), (1, .ref x1), (2, .int x2), (3, .int x3), (4, .int x4)]) dX9_weave_49 (by decide) rfl ?_
        refine xt_goto (tgt := 108) dX9_weave_51 (by decide) ?_
        exact xt_sub [1, 2, 3, 5, 0] rfl (VX9_weave_108 H)
def DX9_weave_0 (h : Nat) (x0 : Nat) (x1 : Nat) (M : Mem) (Q : Option Value → Mem → Prop) : Prop :=
  ok M x1 3 ∧ ∃ b2 : Nat, mR M x1 7 = some b2 ∧ ok M x0 11 ∧ E h mdX9_begin [.ref x0, .ref b2, .int (mI M x1 16)] M (fun r M4 => mE M M4 → r = none ∧ T (h + 1) mdX9_weave 19 [(0, .ref x0), (1, .ref x1), (2, .int (mI M x1 16)), (3, .int 1), (4, .int 0)] [] M4 Q)
set_option maxRecDepth 20000 in
set_option maxHeartbeats 2000000 in
theorem VX9_weave_0 {h : Nat} {x0 : Nat} {x1 : Nat} {M : Mem} {Q : Option Value → Mem → Prop} (H : DX9_weave_0 h x0 x1 M Q) : T (h + 1) mdX9_weave 0 [(0, .ref x0), (1, .ref x1)] [] M Q := by
  unfold DX9_weave_0 at H
  refine xt_aload_n (j := 1) dX9_weave_0 rfl rfl ?_
  obtain ⟨ho1, H⟩ := H
  refine xt_getI dX9_weave_1 (flX9_37 rfl) ft_3_16 ho1.1 ho1.2 ?_
  refine xt_istore_n (lv' := [(2, .int (mI M x1 16)), (0, .ref x0), (1, .ref x1)]) dX9_weave_4 rfl (by decide) rfl ?_
  refine xt_aload_n (j := 1) dX9_weave_5 rfl rfl ?_
  refine xt_aload_n (j := 2) dX9_weave_6 rfl rfl ?_
  obtain ⟨b2, hb, H⟩ := H
  refine xt_getR dX9_weave_7 (flX9_43 rfl) ft_3_7 ho1.1 ho1.2 hb ?_
  refine xt_iload_n (j := 0) dX9_weave_10 rfl rfl ?_
  obtain ⟨ho3, H⟩ := H
  refine xt_callV (h2 := h) (as := [.ref b2, .int (mI M x1 16)]) (st := []) dX9_weave_11 (mlX9_47 rfl) rfl ho3.1 ⟨by rw [ho3.2]; rfl, by rw [ho3.2]; decide⟩ (by first | decide | (simp [Value.category]; done)) (Nat.le_refl _) H (fun r M4 HH hE => ?_)
  obtain ⟨hr, H⟩ := HH hE
  subst hr
  have ho1 := ok_E ho1 hE
  have ho3 := ok_E ho3 hE
  show T _ _ _ _ [] _ _
  refine xt_iconst (v := 1) dX9_weave_14 (by decide) ?_
  refine xt_istore_n (lv' := [(3, .int 1), (2, .int (mI M x1 16)), (0, .ref x0), (1, .ref x1)]) dX9_weave_15 rfl (by decide) rfl ?_
  refine xt_iconst (v := 0) dX9_weave_16 (by decide) ?_
  refine xt_istore (lv' := [(4, .int 0), (3, .int 1), (2, .int (mI M x1 16)), (0, .ref x0), (1, .ref x1)]) dX9_weave_17 (by decide) rfl ?_
  exact xt_sub (lv' := [(0, .ref x0), (1, .ref x1), (2, .int (mI M x1 16)), (3, .int 1), (4, .int 0)]) [3, 4, 2, 1, 0] rfl H
theorem KX9_weave {h : Nat} {x0 : Nat} {x1 : Nat} {M : Mem} {Q : Option Value → Mem → Prop} (H : DX9_weave_0 h x0 x1 M Q) : E (h + 1) mdX9_weave [.ref x0, .ref x1] M Q := E.of (by decide) (Nat.le_of_ble_eq_true rfl) (fun _ _ _ => trivial) (VX9_weave_0 H)
def DX9_begin_0 (h : Nat) (x0 : Nat) (x1 : Nat) (x2 : Int32) (M : Mem) (Q : Option Value → Mem → Prop) : Prop :=
  ok M x0 11 ∧ ∀ M2 : Mem, M2 = wR M x0 8 (some x1) →
  ∃ b3 : Nat, mR M2 x0 1 = some b3 ∧ ∃ b4 : Nat, mR M2 x0 8 = some b4 ∧ ok M2 b4 2 ∧ ok M2 b3 21 ∧ vp_in x2 (mL M2 b3) ∧ ∀ M7 : Mem, M7 = wAI M2 b3 (x2 : Int32).toNatClampNeg (mI M2 b4 15) →
  ∃ b8 : Nat, mR M7 x0 2 = some b8 ∧ ∃ b9 : Nat, mR M7 x0 8 = some b9 ∧ ok M7 b9 2 ∧ E h mdX0_not [.int (mI M7 b9 15)] M7 (fun r M11 => mE M7 M11 → ∃ r12 : Int32, r = some (.int r12) ∧ ok M11 b8 21 ∧ vp_in x2 (mL M11 b8) ∧ ∀ M14 : Mem, M14 = wAI M11 b8 (x2 : Int32).toNatClampNeg r12 →
  ∃ b15 : Nat, mR M14 x0 3 = some b15 ∧ ok M14 b15 21 ∧ vp_in x2 (mL M14 b15) ∧ ∀ M17 : Mem, M17 = wAI M14 b15 (x2 : Int32).toNatClampNeg 0 →
  ∃ b18 : Nat, mR M17 x0 4 = some b18 ∧ ok M17 b18 21 ∧ vp_in x2 (mL M17 b18) ∧ ∀ M20 : Mem, M20 = wAI M17 b18 (x2 : Int32).toNatClampNeg 0 →
  Q none M20)
set_option maxRecDepth 20000 in
set_option maxHeartbeats 2000000 in
theorem VX9_begin_0 {h : Nat} {x0 : Nat} {x1 : Nat} {x2 : Int32} {M : Mem} {Q : Option Value → Mem → Prop} (H : DX9_begin_0 h x0 x1 x2 M Q) : T (h + 1) mdX9_begin 0 [(0, .ref x0), (1, .ref x1), (2, .int x2)] [] M Q := by
  unfold DX9_begin_0 at H
  refine xt_aload_n (j := 0) dX9_begin_0 rfl rfl ?_
  refine xt_aload_n (j := 1) dX9_begin_1 rfl rfl ?_
  obtain ⟨ho1, H⟩ := H
  obtain ⟨M2, eM2⟩ : ∃ z, z = wR M x0 8 (some x1) := ⟨_, rfl⟩
  have H := H _ eM2
  refine xt_putR dX9_begin_2 (flX9_80 rfl) ft_11_8 rfl ho1.1 ho1.2 ?_
  have ho1 : ok M2 x0 11 := by rw [eM2]; exact ho1
  rw [← eM2]
  refine xt_aload_n (j := 0) dX9_begin_5 rfl rfl ?_
  obtain ⟨b3, hb, H⟩ := H
  refine xt_getR dX9_begin_6 (flX9_9 rfl) ft_11_1 ho1.1 ho1.2 hb ?_
  refine xt_iload_n (j := 2) dX9_begin_9 rfl rfl ?_
  refine xt_aload_n (j := 0) dX9_begin_10 rfl rfl ?_
  obtain ⟨b4, hb, H⟩ := H
  refine xt_getR dX9_begin_11 (flX9_80 rfl) ft_11_8 ho1.1 ho1.2 hb ?_
  obtain ⟨ho5, H⟩ := H
  refine xt_getI dX9_begin_14 (flX9_81 rfl) ft_2_15 ho5.1 ho5.2 ?_
  obtain ⟨ho6, H⟩ := H
  obtain ⟨hi, H⟩ := H
  obtain ⟨M7, eM7⟩ : ∃ z, z = wAI M2 b3 (x2 : Int32).toNatClampNeg (mI M2 b4 15) := ⟨_, rfl⟩
  have H := H _ eM7
  refine xt_iast dX9_begin_17 ho6.1 ho6.2 hi ?_
  have ho1 : ok M7 x0 11 := by rw [eM7]; exact ho1
  rw [← eM7]
  refine xt_aload_n (j := 0) dX9_begin_18 rfl rfl ?_
  obtain ⟨b8, hb, H⟩ := H
  refine xt_getR dX9_begin_19 (flX9_15 rfl) ft_11_2 ho1.1 ho1.2 hb ?_
  refine xt_iload_n (j := 2) dX9_begin_22 rfl rfl ?_
  refine xt_aload_n (j := 0) dX9_begin_23 rfl rfl ?_
  obtain ⟨b9, hb, H⟩ := H
  refine xt_getR dX9_begin_24 (flX9_80 rfl) ft_11_8 ho1.1 ho1.2 hb ?_
  obtain ⟨ho10, H⟩ := H
  refine xt_getI dX9_begin_27 (flX9_81 rfl) ft_2_15 ho10.1 ho10.2 ?_
  refine xt_callS (h2 := h) (as := [.int (mI M7 b9 15)]) (st := [.int x2, .ref b8]) dX9_begin_30 (mlX9_85 rfl) rfl (by first | decide | (simp [Value.category]; done)) (Nat.le_refl _) H (fun r M11 HH hE => ?_)
  obtain ⟨r12, hr, H⟩ := HH hE
  subst hr
  have ho1 := ok_E ho1 hE
  show T _ _ _ _ [.int r12, .int x2, .ref b8] _ _
  obtain ⟨ho13, H⟩ := H
  obtain ⟨hi, H⟩ := H
  obtain ⟨M14, eM14⟩ : ∃ z, z = wAI M11 b8 (x2 : Int32).toNatClampNeg r12 := ⟨_, rfl⟩
  have H := H _ eM14
  refine xt_iast dX9_begin_33 ho13.1 ho13.2 hi ?_
  have ho1 : ok M14 x0 11 := by rw [eM14]; exact ho1
  rw [← eM14]
  refine xt_aload_n (j := 0) dX9_begin_34 rfl rfl ?_
  obtain ⟨b15, hb, H⟩ := H
  refine xt_getR dX9_begin_35 (flX9_18 rfl) ft_11_3 ho1.1 ho1.2 hb ?_
  refine xt_iload_n (j := 2) dX9_begin_38 rfl rfl ?_
  refine xt_iconst (v := 0) dX9_begin_39 (by decide) ?_
  obtain ⟨ho16, H⟩ := H
  obtain ⟨hi, H⟩ := H
  obtain ⟨M17, eM17⟩ : ∃ z, z = wAI M14 b15 (x2 : Int32).toNatClampNeg 0 := ⟨_, rfl⟩
  have H := H _ eM17
  refine xt_iast dX9_begin_40 ho16.1 ho16.2 hi ?_
  have ho1 : ok M17 x0 11 := by rw [eM17]; exact ho1
  rw [← eM17]
  refine xt_aload_n (j := 0) dX9_begin_41 rfl rfl ?_
  obtain ⟨b18, hb, H⟩ := H
  refine xt_getR dX9_begin_42 (flX9_21 rfl) ft_11_4 ho1.1 ho1.2 hb ?_
  refine xt_iload_n (j := 2) dX9_begin_45 rfl rfl ?_
  refine xt_iconst (v := 0) dX9_begin_46 (by decide) ?_
  obtain ⟨ho19, H⟩ := H
  obtain ⟨hi, H⟩ := H
  obtain ⟨M20, eM20⟩ : ∃ z, z = wAI M17 b18 (x2 : Int32).toNatClampNeg 0 := ⟨_, rfl⟩
  have H := H _ eM20
  refine xt_iast dX9_begin_47 ho19.1 ho19.2 hi ?_
  have ho1 : ok M20 x0 11 := by rw [eM20]; exact ho1
  rw [← eM20]
  exact xt_return dX9_begin_48 rfl H
theorem KX9_begin {h : Nat} {x0 : Nat} {x1 : Nat} {x2 : Int32} {M : Mem} {Q : Option Value → Mem → Prop} (H : DX9_begin_0 h x0 x1 x2 M Q) : E (h + 1) mdX9_begin [.ref x0, .ref x1, .int x2] M Q := E.of (by decide) (Nat.le_of_ble_eq_true rfl) (fun _ _ _ => trivial) (VX9_begin_0 H)
def DX9_finish_73 (h : Nat) (x0 : Nat) (x1 : Nat) (x2 : Int32) (M : Mem) (Q : Option Value → Mem → Prop) : Prop :=
  ok M x1 3 ∧ ∃ b2 : Nat, mR M x1 6 = some b2 ∧ ok M b2 1 ∧ E h mdJx4a65c_size_8abf5 [.ref b2] M (fun r M4 => mE M M4 → ∃ r5 : Int32, r = some (.int r5) ∧ (r5 ≤ x2 → Q none M4) ∧
  (¬ (r5 ≤ x2) → ∃ b6 : Nat, mR M4 x1 6 = some b6 ∧ ok M4 b6 1 ∧ E h mdJx4a65c_get_915e3 [.ref b6, .int x2] M4 (fun r M8 => mE M4 M8 → ∃ b9 : Nat, r = some (.ref b9) ∧ ok M8 b9 5 ∧ ok M8 x0 11 ∧ E h mdX9_tellPart [.ref x0, .ref b9] M8 (fun r M12 => mE M8 M12 → r = none ∧ T (h + 1) mdX9_finish 73 [(0, .ref x0), (1, .ref x1), (2, .int (x2 + 1))] [] M12 Q))))
set_option maxRecDepth 20000 in
set_option maxHeartbeats 2000000 in
theorem VX9_finish_73 {h : Nat} {x0 : Nat} {x1 : Nat} {x2 : Int32} {M : Mem} {Q : Option Value → Mem → Prop} (H : DX9_finish_73 h x0 x1 x2 M Q) : T (h + 1) mdX9_finish 73 [(0, .ref x0), (1, .ref x1), (2, .int x2)] [] M Q := by
  unfold DX9_finish_73 at H
  refine xt_iload_n (j := 2) dX9_finish_73 rfl rfl ?_
  refine xt_aload_n (j := 1) dX9_finish_74 rfl rfl ?_
  obtain ⟨ho1, H⟩ := H
  obtain ⟨b2, hb, H⟩ := H
  refine xt_getR dX9_finish_75 (flX9_110 rfl) ft_3_6 ho1.1 ho1.2 hb ?_
  obtain ⟨ho3, H⟩ := H
  refine xt_callV (h2 := h) (as := []) (st := [.int x2]) dX9_finish_78 (mlX9_114 rfl) rfl ho3.1 ⟨by rw [ho3.2]; rfl, by rw [ho3.2]; decide⟩ (by first | decide | (simp [Value.category]; done)) (Nat.le_refl _) H (fun r M4 HH hE => ?_)
  obtain ⟨r5, hr, H⟩ := HH hE
  subst hr
  have ho1 := ok_E ho1 hE
  show T _ _ _ _ [.int r5, .int x2] _ _
  refine xt_icmp_ge (tgt := 105) dX9_finish_81 (by decide) (fun hc => ?_) (fun hc => ?_)
  · have H := H.1 hc
    exact xt_return dX9_finish_105 rfl H
  · have H := H.2 hc
    refine xt_aload_n (j := 0) dX9_finish_84 rfl rfl ?_
    refine xt_aload_n (j := 1) dX9_finish_85 rfl rfl ?_
    obtain ⟨b6, hb, H⟩ := H
    refine xt_getR dX9_finish_86 (flX9_110 rfl) ft_3_6 ho1.1 ho1.2 hb ?_
    refine xt_iload_n (j := 2) dX9_finish_89 rfl rfl ?_
    obtain ⟨ho7, H⟩ := H
    refine xt_callV (h2 := h) (as := [.int x2]) (st := [.ref x0]) dX9_finish_90 (mlX9_120 rfl) rfl ho7.1 ⟨by rw [ho7.2]; rfl, by rw [ho7.2]; decide⟩ (by first | decide | (simp [Value.category]; done)) (Nat.le_refl _) H (fun r M8 HH hE => ?_)
    obtain ⟨b9, hr, H⟩ := HH hE
    subst hr
    have ho1 := ok_E ho1 hE
    show T _ _ _ _ [.ref b9, .ref x0] _ _
    obtain ⟨ho10, H⟩ := H
    refine xt_cast dX9_finish_93 (ccX9_124 rfl) ho10.1 ho10.2 ?_
    obtain ⟨ho11, H⟩ := H
    refine xt_callV (h2 := h) (as := [.ref b9]) (st := []) dX9_finish_96 (mlX9_126 rfl) rfl ho11.1 ⟨by rw [ho11.2]; rfl, by rw [ho11.2]; decide⟩ (by first | decide | (simp [Value.category]; done)) (Nat.le_refl _) H (fun r M12 HH hE => ?_)
    obtain ⟨hr, H⟩ := HH hE
    subst hr
    have ho1 := ok_E ho1 hE
    have ho11 := ok_E ho11 hE
    show T _ _ _ _ [] _ _
    refine xt_iinc (j := 2) (v := x2 + 1) (lv' := [(2, .int (x2 + 1)), (0, .ref x0), (1, .ref x1)]) dX9_finish_99 rfl (by rfl) (by decide) rfl ?_
    refine xt_goto (tgt := 73) dX9_finish_102 (by decide) ?_
    exact xt_sub (lv' := [(0, .ref x0), (1, .ref x1), (2, .int (x2 + 1))]) [1, 2, 0] rfl H
def DX9_finish_65 (h : Nat) (x0 : Nat) (x1 : Nat) (x2 : Int32) (M : Mem) (Q : Option Value → Mem → Prop) : Prop :=
  T (h + 1) mdX9_finish 21 [(0, .ref x0), (1, .ref x1), (2, .int (x2 + 1))] [] M Q
set_option maxRecDepth 20000 in
set_option maxHeartbeats 2000000 in
theorem VX9_finish_65 {h : Nat} {x0 : Nat} {x1 : Nat} {x2 : Int32} {M : Mem} {Q : Option Value → Mem → Prop} (H : DX9_finish_65 h x0 x1 x2 M Q) : T (h + 1) mdX9_finish 65 [(0, .ref x0), (1, .ref x1), (2, .int x2)] [] M Q := by
  unfold DX9_finish_65 at H
  refine xt_iinc (j := 2) (v := x2 + 1) (lv' := [(2, .int (x2 + 1)), (0, .ref x0), (1, .ref x1)]) dX9_finish_65 rfl (by rfl) (by decide) rfl ?_
  refine xt_goto (tgt := 21) dX9_finish_68 (by decide) ?_
  exact xt_sub (lv' := [(0, .ref x0), (1, .ref x1), (2, .int (x2 + 1))]) [1, 2, 0] rfl H
def DX9_finish_21 (h : Nat) (x0 : Nat) (x1 : Nat) (x2 : Int32) (M : Mem) (Q : Option Value → Mem → Prop) : Prop :=
  ok M x1 3 ∧ ((mI M x1 9) ≤ x2 → T (h + 1) mdX9_finish 73 [(0, .ref x0), (1, .ref x1), (2, .int 0)] [] M Q) ∧
  (¬ ((mI M x1 9) ≤ x2) → ∃ b2 : Nat, mR M x1 1 = some b2 ∧ ok M b2 21 ∧ vp_in x2 (mL M b2) ∧ ((mAI M b2 (x2 : Int32).toNatClampNeg) = 30 → DX9_finish_65 h x0 x1 x2 M Q) ∧
  (¬ ((mAI M b2 (x2 : Int32).toNatClampNeg) = 30) → ok M x0 11 ∧ ∃ b5 : Nat, mR M x0 8 = some b5 ∧ ∃ b6 : Nat, mR M x0 8 = some b6 ∧ ok M b6 2 ∧ ∃ b8 : Nat, mR M b6 13 = some b8 ∧ ok M b8 21 ∧ vp_in x2 (mL M b8) ∧ ∃ b10 : Nat, mR M x0 8 = some b10 ∧ ok M b10 2 ∧ ∃ b12 : Nat, mR M b10 14 = some b12 ∧ ok M b12 21 ∧ vp_in x2 (mL M b12) ∧ ok M b5 2 ∧ E h mdX0_close [.ref b5, .int (mAI M b8 (x2 : Int32).toNatClampNeg), .int (mAI M b12 (x2 : Int32).toNatClampNeg)] M (fun r M15 => mE M M15 → r = none ∧ DX9_finish_65 h x0 x1 x2 M15 Q)))
set_option maxRecDepth 20000 in
set_option maxHeartbeats 2000000 in
theorem VX9_finish_21 {h : Nat} {x0 : Nat} {x1 : Nat} {x2 : Int32} {M : Mem} {Q : Option Value → Mem → Prop} (H : DX9_finish_21 h x0 x1 x2 M Q) : T (h + 1) mdX9_finish 21 [(0, .ref x0), (1, .ref x1), (2, .int x2)] [] M Q := by
  unfold DX9_finish_21 at H
  refine xt_iload_n (j := 2) dX9_finish_21 rfl rfl ?_
  refine xt_aload_n (j := 1) dX9_finish_22 rfl rfl ?_
  obtain ⟨ho1, H⟩ := H
  refine xt_getI dX9_finish_23 (flX9_92 rfl) ft_3_9 ho1.1 ho1.2 ?_
  refine xt_icmp_ge (tgt := 71) dX9_finish_26 (by decide) (fun hc => ?_) (fun hc => ?_)
  · have H := H.1 hc
    refine xt_iconst (v := 0) dX9_finish_71 (by decide) ?_
    refine xt_istore_n (lv' := [(2, .int 0), (0, .ref x0), (1, .ref x1)]) dX9_finish_72 rfl (by decide) rfl ?_
    exact xt_sub (lv' := [(0, .ref x0), (1, .ref x1), (2, .int 0)]) [1, 2, 0] rfl H
  · have H := H.2 hc
    refine xt_aload_n (j := 1) dX9_finish_29 rfl rfl ?_
    obtain ⟨b2, hb, H⟩ := H
    refine xt_getR dX9_finish_30 (flX9_95 rfl) ft_3_1 ho1.1 ho1.2 hb ?_
    refine xt_iload_n (j := 2) dX9_finish_33 rfl rfl ?_
    obtain ⟨ho3, H⟩ := H
    obtain ⟨hi, H⟩ := H
    refine xt_iald dX9_finish_34 ho3.1 ho3.2 hi ?_
    refine xt_bipush (v := 30) dX9_finish_35 (by decide) ?_
    refine xt_icmp_eq (tgt := 65) dX9_finish_37 (by decide) (fun hc => ?_) (fun hc => ?_)
    · have H := H.1 hc
      exact xt_sub [0, 1, 2] rfl (VX9_finish_65 H)
    · have H := H.2 hc
      refine xt_aload_n (j := 0) dX9_finish_40 rfl rfl ?_
      obtain ⟨ho4, H⟩ := H
      obtain ⟨b5, hb, H⟩ := H
      refine xt_getR dX9_finish_41 (flX9_80 rfl) ft_11_8 ho4.1 ho4.2 hb ?_
      refine xt_aload_n (j := 0) dX9_finish_44 rfl rfl ?_
      obtain ⟨b6, hb, H⟩ := H
      refine xt_getR dX9_finish_45 (flX9_80 rfl) ft_11_8 ho4.1 ho4.2 hb ?_
      obtain ⟨ho7, H⟩ := H
      obtain ⟨b8, hb, H⟩ := H
      refine xt_getR dX9_finish_48 (flX9_100 rfl) ft_2_13 ho7.1 ho7.2 hb ?_
      refine xt_iload_n (j := 2) dX9_finish_51 rfl rfl ?_
      obtain ⟨ho9, H⟩ := H
      obtain ⟨hi, H⟩ := H
      refine xt_iald dX9_finish_52 ho9.1 ho9.2 hi ?_
      refine xt_aload_n (j := 0) dX9_finish_53 rfl rfl ?_
      obtain ⟨b10, hb, H⟩ := H
      refine xt_getR dX9_finish_54 (flX9_80 rfl) ft_11_8 ho4.1 ho4.2 hb ?_
      obtain ⟨ho11, H⟩ := H
      obtain ⟨b12, hb, H⟩ := H
      refine xt_getR dX9_finish_57 (flX9_103 rfl) ft_2_14 ho11.1 ho11.2 hb ?_
      refine xt_iload_n (j := 2) dX9_finish_60 rfl rfl ?_
      obtain ⟨ho13, H⟩ := H
      obtain ⟨hi, H⟩ := H
      refine xt_iald dX9_finish_61 ho13.1 ho13.2 hi ?_
      obtain ⟨ho14, H⟩ := H
      refine xt_callV (h2 := h) (as := [.int (mAI M b8 (x2 : Int32).toNatClampNeg), .int (mAI M b12 (x2 : Int32).toNatClampNeg)]) (st := []) dX9_finish_62 (mlX9_106 rfl) rfl ho14.1 ⟨by rw [ho14.2]; rfl, by rw [ho14.2]; decide⟩ (by first | decide | (simp [Value.category]; done)) (Nat.le_refl _) H (fun r M15 HH hE => ?_)
      obtain ⟨hr, H⟩ := HH hE
      subst hr
      have ho1 := ok_E ho1 hE
      have ho4 := ok_E ho4 hE
      show T _ _ _ _ [] _ _
      exact xt_sub [0, 1, 2] rfl (VX9_finish_65 H)
def DX9_finish_0 (h : Nat) (x0 : Nat) (x1 : Nat) (M : Mem) (Q : Option Value → Mem → Prop) : Prop :=
  ok M x0 11 ∧ ∃ b2 : Nat, mR M x0 8 = some b2 ∧ ∃ b3 : Nat, mR M x0 7 = some b3 ∧ ok M x1 3 ∧ ok M b3 21 ∧ vp_in ((mI M x1 16) * 20) (mL M b3) ∧ ok M b2 2 ∧ ∀ M7 : Mem, M7 = wI M b2 16 (mAI M b3 ((mI M x1 16) * 20 : Int32).toNatClampNeg) →
  T (h + 1) mdX9_finish 21 [(0, .ref x0), (1, .ref x1), (2, .int 0)] [] M7 Q
set_option maxRecDepth 20000 in
set_option maxHeartbeats 2000000 in
theorem VX9_finish_0 {h : Nat} {x0 : Nat} {x1 : Nat} {M : Mem} {Q : Option Value → Mem → Prop} (H : DX9_finish_0 h x0 x1 M Q) : T (h + 1) mdX9_finish 0 [(0, .ref x0), (1, .ref x1)] [] M Q := by
  unfold DX9_finish_0 at H
  refine xt_aload_n (j := 0) dX9_finish_0 rfl rfl ?_
  obtain ⟨ho1, H⟩ := H
  obtain ⟨b2, hb, H⟩ := H
  refine xt_getR dX9_finish_1 (flX9_80 rfl) ft_11_8 ho1.1 ho1.2 hb ?_
  refine xt_aload_n (j := 0) dX9_finish_4 rfl rfl ?_
  obtain ⟨b3, hb, H⟩ := H
  refine xt_getR dX9_finish_5 (flX9_30 rfl) ft_11_7 ho1.1 ho1.2 hb ?_
  refine xt_aload_n (j := 1) dX9_finish_8 rfl rfl ?_
  obtain ⟨ho4, H⟩ := H
  refine xt_getI dX9_finish_9 (flX9_37 rfl) ft_3_16 ho4.1 ho4.2 ?_
  refine xt_bipush (v := 20) dX9_finish_12 (by decide) ?_
  refine xt_imul dX9_finish_14 ?_
  obtain ⟨ho5, H⟩ := H
  obtain ⟨hi, H⟩ := H
  refine xt_iald dX9_finish_15 ho5.1 ho5.2 hi ?_
  obtain ⟨ho6, H⟩ := H
  obtain ⟨M7, eM7⟩ : ∃ z, z = wI M b2 16 (mAI M b3 ((mI M x1 16) * 20 : Int32).toNatClampNeg) := ⟨_, rfl⟩
  have H := H _ eM7
  refine xt_putI dX9_finish_16 (flX9_89 rfl) ty_2_16 rfl ho6.1 ho6.2 ?_
  have ho1 : ok M7 x0 11 := by rw [eM7]; exact ho1
  have ho4 : ok M7 x1 3 := by rw [eM7]; exact ho4
  rw [← eM7]
  refine xt_iconst (v := 0) dX9_finish_19 (by decide) ?_
  refine xt_istore_n (lv' := [(2, .int 0), (0, .ref x0), (1, .ref x1)]) dX9_finish_20 rfl (by decide) rfl ?_
  exact xt_sub (lv' := [(0, .ref x0), (1, .ref x1), (2, .int 0)]) [1, 2, 0] rfl H
theorem KX9_finish {h : Nat} {x0 : Nat} {x1 : Nat} {M : Mem} {Q : Option Value → Mem → Prop} (H : DX9_finish_0 h x0 x1 M Q) : E (h + 1) mdX9_finish [.ref x0, .ref x1] M Q := E.of (by decide) (Nat.le_of_ble_eq_true rfl) (fun _ _ _ => trivial) (VX9_finish_0 H)
def DX9_tellPart_0 (h : Nat) (x0 : Nat) (x1 : Nat) (M : Mem) (Q : Option Value → Mem → Prop) : Prop :=
  ok M x1 5 ∧ ok M x0 11 ∧ ∃ b3 : Nat, mR M x0 0 = some b3 ∧ ok M b3 10 ∧ ∃ b5 : Nat, mR M b3 7 = some b5 ∧ ok M b5 21 ∧ vp_in (mI M x1 1) (mL M b5) ∧ ∀ M7 : Mem, M7 = wI M x1 8 (mAI M b5 (mI M x1 1 : Int32).toNatClampNeg) →
  ∃ b8 : Nat, mR M7 x0 1 = some b8 ∧ ok M7 b8 21 ∧ vp_in (mI M x1 1) (mL M7 b8) ∧ ∀ M10 : Mem, M10 = wI M7 x1 9 (mAI M7 b8 (mI M x1 1 : Int32).toNatClampNeg) →
  ∃ b11 : Nat, mR M10 x0 7 = some b11 ∧ ok M10 b11 21 ∧ vp_in ((mI M x1 1) * 20) (mL M10 b11) ∧ ∀ M13 : Mem, M13 = wI M10 x1 10 (mAI M10 b11 ((mI M x1 1) * 20 : Int32).toNatClampNeg) →
  ∃ b14 : Nat, mR M13 x0 7 = some b14 ∧ ok M13 b14 21 ∧ vp_in (((mI M x1 1) * 20) + 1) (mL M13 b14) ∧ ∀ M16 : Mem, M16 = wI M13 x1 11 (mAI M13 b14 (((mI M x1 1) * 20) + 1 : Int32).toNatClampNeg) →
  ∃ b17 : Nat, mR M16 x0 7 = some b17 ∧ ok M16 b17 21 ∧ vp_in (((mI M x1 1) * 20) + 2) (mL M16 b17) ∧ ∀ M19 : Mem, M19 = wI M16 x1 12 (mAI M16 b17 (((mI M x1 1) * 20) + 2 : Int32).toNatClampNeg) →
  Q none M19
set_option maxRecDepth 20000 in
set_option maxHeartbeats 2000000 in
theorem VX9_tellPart_0 {h : Nat} {x0 : Nat} {x1 : Nat} {M : Mem} {Q : Option Value → Mem → Prop} (H : DX9_tellPart_0 h x0 x1 M Q) : T (h + 1) mdX9_tellPart 0 [(0, .ref x0), (1, .ref x1)] [] M Q := by
  unfold DX9_tellPart_0 at H
  refine xt_aload_n (j := 1) dX9_tellPart_0 rfl rfl ?_
  obtain ⟨ho1, H⟩ := H
  refine xt_getI dX9_tellPart_1 (flX9_130 rfl) ft_5_1 ho1.1 ho1.2 ?_
  refine xt_istore_n (lv' := [(2, .int (mI M x1 1)), (0, .ref x0), (1, .ref x1)]) dX9_tellPart_4 rfl (by decide) rfl ?_
  refine xt_aload_n (j := 2) dX9_tellPart_5 rfl rfl ?_
  refine xt_aload_n (j := 1) dX9_tellPart_6 rfl rfl ?_
  obtain ⟨ho2, H⟩ := H
  obtain ⟨b3, hb, H⟩ := H
  refine xt_getR dX9_tellPart_7 (flX9_33 rfl) ft_11_0 ho2.1 ho2.2 hb ?_
  obtain ⟨ho4, H⟩ := H
  obtain ⟨b5, hb, H⟩ := H
  refine xt_getR dX9_tellPart_10 (flX9_133 rfl) ft_10_7 ho4.1 ho4.2 hb ?_
  refine xt_iload_n (j := 0) dX9_tellPart_13 rfl rfl ?_
  obtain ⟨ho6, H⟩ := H
  obtain ⟨hi, H⟩ := H
  refine xt_iald dX9_tellPart_14 ho6.1 ho6.2 hi ?_
  obtain ⟨M7, eM7⟩ : ∃ z, z = wI M x1 8 (mAI M b5 (mI M x1 1 : Int32).toNatClampNeg) := ⟨_, rfl⟩
  have H := H _ eM7
  refine xt_putI dX9_tellPart_15 (flX9_136 rfl) ty_5_8 rfl ho1.1 ho1.2 ?_
  have ho1 : ok M7 x1 5 := by rw [eM7]; exact ho1
  have ho2 : ok M7 x0 11 := by rw [eM7]; exact ho2
  rw [← eM7]
  refine xt_aload_n (j := 2) dX9_tellPart_18 rfl rfl ?_
  refine xt_aload_n (j := 1) dX9_tellPart_19 rfl rfl ?_
  obtain ⟨b8, hb, H⟩ := H
  refine xt_getR dX9_tellPart_20 (flX9_9 rfl) ft_11_1 ho2.1 ho2.2 hb ?_
  refine xt_iload_n (j := 0) dX9_tellPart_23 rfl rfl ?_
  obtain ⟨ho9, H⟩ := H
  obtain ⟨hi, H⟩ := H
  refine xt_iald dX9_tellPart_24 ho9.1 ho9.2 hi ?_
  obtain ⟨M10, eM10⟩ : ∃ z, z = wI M7 x1 9 (mAI M7 b8 (mI M x1 1 : Int32).toNatClampNeg) := ⟨_, rfl⟩
  have H := H _ eM10
  refine xt_putI dX9_tellPart_25 (flX9_138 rfl) ty_5_9 rfl ho1.1 ho1.2 ?_
  have ho1 : ok M10 x1 5 := by rw [eM10]; exact ho1
  have ho2 : ok M10 x0 11 := by rw [eM10]; exact ho2
  rw [← eM10]
  refine xt_aload_n (j := 2) dX9_tellPart_28 rfl rfl ?_
  refine xt_aload_n (j := 1) dX9_tellPart_29 rfl rfl ?_
  obtain ⟨b11, hb, H⟩ := H
  refine xt_getR dX9_tellPart_30 (flX9_30 rfl) ft_11_7 ho2.1 ho2.2 hb ?_
  refine xt_iload_n (j := 0) dX9_tellPart_33 rfl rfl ?_
  refine xt_bipush (v := 20) dX9_tellPart_34 (by decide) ?_
  refine xt_imul dX9_tellPart_36 ?_
  obtain ⟨ho12, H⟩ := H
  obtain ⟨hi, H⟩ := H
  refine xt_iald dX9_tellPart_37 ho12.1 ho12.2 hi ?_
  obtain ⟨M13, eM13⟩ : ∃ z, z = wI M10 x1 10 (mAI M10 b11 ((mI M x1 1) * 20 : Int32).toNatClampNeg) := ⟨_, rfl⟩
  have H := H _ eM13
  refine xt_putI dX9_tellPart_38 (flX9_140 rfl) ty_5_10 rfl ho1.1 ho1.2 ?_
  have ho1 : ok M13 x1 5 := by rw [eM13]; exact ho1
  have ho2 : ok M13 x0 11 := by rw [eM13]; exact ho2
  rw [← eM13]
  refine xt_aload_n (j := 2) dX9_tellPart_41 rfl rfl ?_
  refine xt_aload_n (j := 1) dX9_tellPart_42 rfl rfl ?_
  obtain ⟨b14, hb, H⟩ := H
  refine xt_getR dX9_tellPart_43 (flX9_30 rfl) ft_11_7 ho2.1 ho2.2 hb ?_
  refine xt_iload_n (j := 0) dX9_tellPart_46 rfl rfl ?_
  refine xt_bipush (v := 20) dX9_tellPart_47 (by decide) ?_
  refine xt_imul dX9_tellPart_49 ?_
  refine xt_iconst (v := 1) dX9_tellPart_50 (by decide) ?_
  refine xt_iadd dX9_tellPart_51 ?_
  obtain ⟨ho15, H⟩ := H
  obtain ⟨hi, H⟩ := H
  refine xt_iald dX9_tellPart_52 ho15.1 ho15.2 hi ?_
  obtain ⟨M16, eM16⟩ : ∃ z, z = wI M13 x1 11 (mAI M13 b14 (((mI M x1 1) * 20) + 1 : Int32).toNatClampNeg) := ⟨_, rfl⟩
  have H := H _ eM16
  refine xt_putI dX9_tellPart_53 (flX9_143 rfl) ty_5_11 rfl ho1.1 ho1.2 ?_
  have ho1 : ok M16 x1 5 := by rw [eM16]; exact ho1
  have ho2 : ok M16 x0 11 := by rw [eM16]; exact ho2
  rw [← eM16]
  refine xt_aload_n (j := 2) dX9_tellPart_56 rfl rfl ?_
  refine xt_aload_n (j := 1) dX9_tellPart_57 rfl rfl ?_
  obtain ⟨b17, hb, H⟩ := H
  refine xt_getR dX9_tellPart_58 (flX9_30 rfl) ft_11_7 ho2.1 ho2.2 hb ?_
  refine xt_iload_n (j := 0) dX9_tellPart_61 rfl rfl ?_
  refine xt_bipush (v := 20) dX9_tellPart_62 (by decide) ?_
  refine xt_imul dX9_tellPart_64 ?_
  refine xt_iconst (v := 2) dX9_tellPart_65 (by decide) ?_
  refine xt_iadd dX9_tellPart_66 ?_
  obtain ⟨ho18, H⟩ := H
  obtain ⟨hi, H⟩ := H
  refine xt_iald dX9_tellPart_67 ho18.1 ho18.2 hi ?_
  obtain ⟨M19, eM19⟩ : ∃ z, z = wI M16 x1 12 (mAI M16 b17 (((mI M x1 1) * 20) + 2 : Int32).toNatClampNeg) := ⟨_, rfl⟩
  have H := H _ eM19
  refine xt_putI dX9_tellPart_68 (flX9_146 rfl) ty_5_12 rfl ho1.1 ho1.2 ?_
  have ho1 : ok M19 x1 5 := by rw [eM19]; exact ho1
  have ho2 : ok M19 x0 11 := by rw [eM19]; exact ho2
  rw [← eM19]
  exact xt_return dX9_tellPart_71 rfl H
theorem KX9_tellPart {h : Nat} {x0 : Nat} {x1 : Nat} {M : Mem} {Q : Option Value → Mem → Prop} (H : DX9_tellPart_0 h x0 x1 M Q) : E (h + 1) mdX9_tellPart [.ref x0, .ref x1] M Q := E.of (by decide) (Nat.le_of_ble_eq_true rfl) (fun _ _ _ => trivial) (VX9_tellPart_0 H)
def DX9_arrive_277 (h : Nat) (M : Mem) (Q : Option Value → Mem → Prop) : Prop :=
  Q none M
set_option maxRecDepth 20000 in
set_option maxHeartbeats 2000000 in
theorem VX9_arrive_277 {h : Nat} {M : Mem} {Q : Option Value → Mem → Prop} (H : DX9_arrive_277 h  M Q) : T (h + 1) mdX9_arrive 277 [] [] M Q := by
  unfold DX9_arrive_277 at H
  exact xt_return dX9_arrive_277 rfl H
def DX9_arrive_164 (h : Nat) (s0 : Nat) (s1 : Int32) (s2 : Nat) (s3 : Int32) (s4 : Int32) (M : Mem) (Q : Option Value → Mem → Prop) : Prop :=
  ok M s2 2 ∧ E h mdX0_and [.ref s2, .int s3, .int s4] M (fun r M2 => mE M M2 → ∃ r3 : Int32, r = some (.int r3) ∧ ok M2 s0 21 ∧ vp_in s1 (mL M2 s0) ∧ ∀ M5 : Mem, M5 = wAI M2 s0 (s1 : Int32).toNatClampNeg r3 →
  DX9_arrive_277 h  M5 Q)
set_option maxRecDepth 20000 in
set_option maxHeartbeats 2000000 in
theorem VX9_arrive_164 {h : Nat} {s0 : Nat} {s1 : Int32} {s2 : Nat} {s3 : Int32} {s4 : Int32} {M : Mem} {Q : Option Value → Mem → Prop} (H : DX9_arrive_164 h s0 s1 s2 s3 s4 M Q) : T (h + 1) mdX9_arrive 164 [] [.int s4, .int s3, .ref s2, .int s1, .ref s0] M Q := by
  unfold DX9_arrive_164 at H
  obtain ⟨ho1, H⟩ := H
  refine xt_callV (h2 := h) (as := [.int s3, .int s4]) (st := [.int s1, .ref s0]) dX9_arrive_164 (mlX9_152 rfl) rfl ho1.1 ⟨by rw [ho1.2]; rfl, by rw [ho1.2]; decide⟩ (by first | decide | (simp [Value.category]; done)) (Nat.le_refl _) H (fun r M2 HH hE => ?_)
  obtain ⟨r3, hr, H⟩ := HH hE
  subst hr
  show T _ _ _ _ [.int r3, .int s1, .ref s0] _ _
  obtain ⟨ho4, H⟩ := H
  obtain ⟨hi, H⟩ := H
  obtain ⟨M5, eM5⟩ : ∃ z, z = wAI M2 s0 (s1 : Int32).toNatClampNeg r3 := ⟨_, rfl⟩
  have H := H _ eM5
  refine xt_iast dX9_arrive_167 ho4.1 ho4.2 hi ?_
  rw [← eM5]
  refine xt_goto (tgt := 277) dX9_arrive_168 (by decide) ?_
  exact xt_sub [] rfl (VX9_arrive_277 H)
def DX9_arrive_134 (h : Nat) (x0 : Nat) (x1 : Int32) (x2 : Int32) (x3 : Int32) (s0 : Int32) (M : Mem) (Q : Option Value → Mem → Prop) : Prop :=
  ok M x0 11 ∧ ∃ b2 : Nat, mR M x0 1 = some b2 ∧ ∃ b3 : Nat, mR M x0 8 = some b3 ∧ ∃ b4 : Nat, mR M x0 1 = some b4 ∧ ok M b4 21 ∧ vp_in x2 (mL M b4) ∧ (s0 = 0 → E h mdX0_not [.int x3] M (fun r M6 => mE M M6 → ∃ r7 : Int32, r = some (.int r7) ∧ DX9_arrive_164 h b2 x1 b3 (mAI M b4 (x2 : Int32).toNatClampNeg) r7 M6 Q)) ∧
  (¬ (s0 = 0) → DX9_arrive_164 h b2 x1 b3 (mAI M b4 (x2 : Int32).toNatClampNeg) x3 M Q)
set_option maxRecDepth 20000 in
set_option maxHeartbeats 2000000 in
theorem VX9_arrive_134 {h : Nat} {x0 : Nat} {x1 : Int32} {x2 : Int32} {x3 : Int32} {s0 : Int32} {M : Mem} {Q : Option Value → Mem → Prop} (H : DX9_arrive_134 h x0 x1 x2 x3 s0 M Q) : T (h + 1) mdX9_arrive 134 [(0, .ref x0), (1, .int x1), (2, .int x2), (3, .int x3)] [.int s0] M Q := by
  unfold DX9_arrive_134 at H
  refine xt_istore (lv' := [(4, .int s0), (0, .ref x0), (1, .int x1), (2, .int x2), (3, .int x3)]) dX9_arrive_134 (by decide) rfl ?_
  refine xt_aload_n (j := 1) dX9_arrive_136 rfl rfl ?_
  obtain ⟨ho1, H⟩ := H
  obtain ⟨b2, hb, H⟩ := H
  refine xt_getR dX9_arrive_137 (flX9_9 rfl) ft_11_1 ho1.1 ho1.2 hb ?_
  refine xt_iload_n (j := 2) dX9_arrive_140 rfl rfl ?_
  refine xt_aload_n (j := 1) dX9_arrive_141 rfl rfl ?_
  obtain ⟨b3, hb, H⟩ := H
  refine xt_getR dX9_arrive_142 (flX9_80 rfl) ft_11_8 ho1.1 ho1.2 hb ?_
  refine xt_aload_n (j := 1) dX9_arrive_145 rfl rfl ?_
  obtain ⟨b4, hb, H⟩ := H
  refine xt_getR dX9_arrive_146 (flX9_9 rfl) ft_11_1 ho1.1 ho1.2 hb ?_
  refine xt_iload_n (j := 3) dX9_arrive_149 rfl rfl ?_
  obtain ⟨ho5, H⟩ := H
  obtain ⟨hi, H⟩ := H
  refine xt_iald dX9_arrive_150 ho5.1 ho5.2 hi ?_
  refine xt_iload (j := 0) dX9_arrive_151 rfl ?_
  refine xt_if_eq (tgt := 160) dX9_arrive_153 (by decide) (fun hc => ?_) (fun hc => ?_)
  · have H := H.1 hc
    refine xt_iload_n (j := 4) dX9_arrive_160 rfl rfl ?_
    refine xt_callS (h2 := h) (as := [.int x3]) (st := [.int (mAI M b4 (x2 : Int32).toNatClampNeg), .ref b3, .int x1, .ref b2]) dX9_arrive_161 (mlX9_85 rfl) rfl (by first | decide | (simp [Value.category]; done)) (Nat.le_refl _) H (fun r M6 HH hE => ?_)
    obtain ⟨r7, hr, H⟩ := HH hE
    subst hr
    have ho1 := ok_E ho1 hE
    show T _ _ _ _ [.int r7, .int (mAI M b4 (x2 : Int32).toNatClampNeg), .ref b3, .int x1, .ref b2] _ _
    exact xt_sub [] rfl (VX9_arrive_164 H)
  · have H := H.2 hc
    refine xt_iload_n (j := 4) dX9_arrive_156 rfl rfl ?_
    refine xt_goto (tgt := 164) dX9_arrive_157 (by decide) ?_
    exact xt_sub [] rfl (VX9_arrive_164 H)
def DX9_arrive_0 (h : Nat) (x0 : Nat) (x1 : Int32) (M : Mem) (Q : Option Value → Mem → Prop) : Prop :=
  ok M x0 11 ∧ ∃ b2 : Nat, mR M x0 0 = some b2 ∧ ok M b2 10 ∧ ∃ b4 : Nat, mR M b2 4 = some b4 ∧ ok M b4 21 ∧ vp_in x1 (mL M b4) ∧ ∃ b6 : Nat, mR M x0 0 = some b6 ∧ ok M b6 10 ∧ ∃ b8 : Nat, mR M b6 5 = some b8 ∧ ok M b8 21 ∧ vp_in (mAI M b4 (x1 : Int32).toNatClampNeg) (mL M b8) ∧ ∃ b10 : Nat, mR M x0 1 = some b10 ∧ ∃ b11 : Nat, mR M x0 1 = some b11 ∧ ok M b11 21 ∧ vp_in (mAI M b4 (x1 : Int32).toNatClampNeg) (mL M b11) ∧ ok M b10 21 ∧ vp_in x1 (mL M b10) ∧ ∀ M14 : Mem, M14 = wAI M b10 (x1 : Int32).toNatClampNeg (mAI M b11 (mAI M b4 (x1 : Int32).toNatClampNeg : Int32).toNatClampNeg) →
  ∃ b15 : Nat, mR M14 x0 2 = some b15 ∧ ∃ b16 : Nat, mR M14 x0 2 = some b16 ∧ ok M14 b16 21 ∧ vp_in (mAI M b4 (x1 : Int32).toNatClampNeg) (mL M14 b16) ∧ ok M14 b15 21 ∧ vp_in x1 (mL M14 b15) ∧ ∀ M19 : Mem, M19 = wAI M14 b15 (x1 : Int32).toNatClampNeg (mAI M14 b16 (mAI M b4 (x1 : Int32).toNatClampNeg : Int32).toNatClampNeg) →
  ∃ b20 : Nat, mR M19 x0 3 = some b20 ∧ ∃ b21 : Nat, mR M19 x0 3 = some b21 ∧ ok M19 b21 21 ∧ vp_in (mAI M b4 (x1 : Int32).toNatClampNeg) (mL M19 b21) ∧ ok M19 b20 21 ∧ vp_in x1 (mL M19 b20) ∧ ∀ M24 : Mem, M24 = wAI M19 b20 (x1 : Int32).toNatClampNeg (mAI M19 b21 (mAI M b4 (x1 : Int32).toNatClampNeg : Int32).toNatClampNeg) →
  ∃ b25 : Nat, mR M24 x0 4 = some b25 ∧ ∃ b26 : Nat, mR M24 x0 4 = some b26 ∧ ok M24 b26 21 ∧ vp_in (mAI M b4 (x1 : Int32).toNatClampNeg) (mL M24 b26) ∧ ok M24 b25 21 ∧ vp_in x1 (mL M24 b25) ∧ ∀ M29 : Mem, M29 = wAI M24 b25 (x1 : Int32).toNatClampNeg (mAI M24 b26 (mAI M b4 (x1 : Int32).toNatClampNeg : Int32).toNatClampNeg) →
  ∃ b30 : Nat, mR M29 x0 0 = some b30 ∧ ok M29 b30 10 ∧ ∃ b32 : Nat, mR M29 b30 0 = some b32 ∧ ok M29 b32 21 ∧ vp_in (mAI M b4 (x1 : Int32).toNatClampNeg) (mL M29 b32) ∧ ((mAI M29 b32 (mAI M b4 (x1 : Int32).toNatClampNeg : Int32).toNatClampNeg) = 4 → ∃ b34 : Nat, mR M29 x0 0 = some b34 ∧ ok M29 b34 10 ∧ ∃ b36 : Nat, mR M29 b34 1 = some b36 ∧ ok M29 b36 21 ∧ vp_in (mAI M b4 (x1 : Int32).toNatClampNeg) (mL M29 b36) ∧ (¬ (mAI M29 b36 (mAI M b4 (x1 : Int32).toNatClampNeg : Int32).toNatClampNeg) = x1 → DX9_arrive_134 h x0 x1 (mAI M b4 (x1 : Int32).toNatClampNeg) (mAI M b8 (mAI M b4 (x1 : Int32).toNatClampNeg : Int32).toNatClampNeg) 0 M29 Q) ∧
  ((mAI M29 b36 (mAI M b4 (x1 : Int32).toNatClampNeg : Int32).toNatClampNeg) = x1 → DX9_arrive_134 h x0 x1 (mAI M b4 (x1 : Int32).toNatClampNeg) (mAI M b8 (mAI M b4 (x1 : Int32).toNatClampNeg : Int32).toNatClampNeg) 1 M29 Q)) ∧
  ((mAI M29 b32 (mAI M b4 (x1 : Int32).toNatClampNeg : Int32).toNatClampNeg) = 5 → ∃ b38 : Nat, mR M29 x0 1 = some b38 ∧ ∃ b39 : Nat, mR M29 x0 7 = some b39 ∧ ok M29 b39 21 ∧ vp_in ((mAI M b4 (x1 : Int32).toNatClampNeg) * 20) (mL M29 b39) ∧ ok M29 b38 21 ∧ vp_in x1 (mL M29 b38) ∧ ∀ M42 : Mem, M42 = wAI M29 b38 (x1 : Int32).toNatClampNeg (mAI M29 b39 ((mAI M b4 (x1 : Int32).toNatClampNeg) * 20 : Int32).toNatClampNeg) →
  DX9_arrive_277 h  M42 Q) ∧
  ((mAI M29 b32 (mAI M b4 (x1 : Int32).toNatClampNeg : Int32).toNatClampNeg) = 6 → ∃ b43 : Nat, mR M29 x0 1 = some b43 ∧ ∃ b44 : Nat, mR M29 x0 5 = some b44 ∧ ok M29 b44 21 ∧ vp_in (mAI M b4 (x1 : Int32).toNatClampNeg) (mL M29 b44) ∧ ok M29 b43 21 ∧ vp_in x1 (mL M29 b43) ∧ ∀ M47 : Mem, M47 = wAI M29 b43 (x1 : Int32).toNatClampNeg (mAI M29 b44 (mAI M b4 (x1 : Int32).toNatClampNeg : Int32).toNatClampNeg) →
  DX9_arrive_277 h  M47 Q) ∧
  ((mAI M29 b32 (mAI M b4 (x1 : Int32).toNatClampNeg : Int32).toNatClampNeg) = 7 → E h mdX9_resumed [.ref x0, .int (mAI M b4 (x1 : Int32).toNatClampNeg)] M29 (fun r M48 => mE M29 M48 → ∃ r49 : Int32, r = some (.int r49) ∧ ∃ b50 : Nat, mR M48 x0 2 = some b50 ∧ ∃ b51 : Nat, mR M48 x0 8 = some b51 ∧ E h mdX0_not [.int (mAI M b8 (mAI M b4 (x1 : Int32).toNatClampNeg : Int32).toNatClampNeg)] M48 (fun r M52 => mE M48 M52 → ∃ r53 : Int32, r = some (.int r53) ∧ ok M52 b51 2 ∧ E h mdX0_and [.ref b51, .int r49, .int r53] M52 (fun r M55 => mE M52 M55 → ∃ r56 : Int32, r = some (.int r56) ∧ ok M55 b50 21 ∧ vp_in x1 (mL M55 b50) ∧ ∀ M58 : Mem, M58 = wAI M55 b50 (x1 : Int32).toNatClampNeg r56 →
  ∃ b59 : Nat, mR M58 x0 3 = some b59 ∧ ∃ b60 : Nat, mR M58 x0 8 = some b60 ∧ ∃ b61 : Nat, mR M58 x0 3 = some b61 ∧ ok M58 b61 21 ∧ vp_in (mAI M b4 (x1 : Int32).toNatClampNeg) (mL M58 b61) ∧ ∃ b63 : Nat, mR M58 x0 8 = some b63 ∧ ok M58 b63 2 ∧ E h mdX0_and [.ref b63, .int r49, .int (mAI M b8 (mAI M b4 (x1 : Int32).toNatClampNeg : Int32).toNatClampNeg)] M58 (fun r M65 => mE M58 M65 → ∃ r66 : Int32, r = some (.int r66) ∧ ok M65 b60 2 ∧ E h mdX0_or [.ref b60, .int (mAI M58 b61 (mAI M b4 (x1 : Int32).toNatClampNeg : Int32).toNatClampNeg), .int r66] M65 (fun r M68 => mE M65 M68 → ∃ r69 : Int32, r = some (.int r69) ∧ ok M68 b59 21 ∧ vp_in x1 (mL M68 b59) ∧ ∀ M71 : Mem, M71 = wAI M68 b59 (x1 : Int32).toNatClampNeg r69 →
  DX9_arrive_277 h  M71 Q)))))) ∧
  ((mAI M29 b32 (mAI M b4 (x1 : Int32).toNatClampNeg : Int32).toNatClampNeg) = 8 → DX9_arrive_277 h  M29 Q) ∧
  ((mAI M29 b32 (mAI M b4 (x1 : Int32).toNatClampNeg : Int32).toNatClampNeg) = 9 → ∃ b72 : Nat, mR M29 x0 4 = some b72 ∧ ∃ b73 : Nat, mR M29 x0 5 = some b73 ∧ ok M29 b73 21 ∧ vp_in (mAI M b4 (x1 : Int32).toNatClampNeg) (mL M29 b73) ∧ ok M29 b72 21 ∧ vp_in x1 (mL M29 b72) ∧ ∀ M76 : Mem, M76 = wAI M29 b72 (x1 : Int32).toNatClampNeg (mAI M29 b73 (mAI M b4 (x1 : Int32).toNatClampNeg : Int32).toNatClampNeg) →
  DX9_arrive_277 h  M76 Q) ∧
  (((mAI M29 b32 (mAI M b4 (x1 : Int32).toNatClampNeg : Int32).toNatClampNeg : Int32).toInt < 4 ∨ 9 < (mAI M29 b32 (mAI M b4 (x1 : Int32).toNatClampNeg : Int32).toNatClampNeg : Int32).toInt) → DX9_arrive_277 h  M29 Q)
set_option maxRecDepth 20000 in
set_option maxHeartbeats 2000000 in
theorem VX9_arrive_0 {h : Nat} {x0 : Nat} {x1 : Int32} {M : Mem} {Q : Option Value → Mem → Prop} (H : DX9_arrive_0 h x0 x1 M Q) : T (h + 1) mdX9_arrive 0 [(0, .ref x0), (1, .int x1)] [] M Q := by
  unfold DX9_arrive_0 at H
  refine xt_aload_n (j := 0) dX9_arrive_0 rfl rfl ?_
  obtain ⟨ho1, H⟩ := H
  obtain ⟨b2, hb, H⟩ := H
  refine xt_getR dX9_arrive_1 (flX9_33 rfl) ft_11_0 ho1.1 ho1.2 hb ?_
  obtain ⟨ho3, H⟩ := H
  obtain ⟨b4, hb, H⟩ := H
  refine xt_getR dX9_arrive_4 (flX9_70 rfl) ft_10_4 ho3.1 ho3.2 hb ?_
  refine xt_iload_n (j := 1) dX9_arrive_7 rfl rfl ?_
  obtain ⟨ho5, H⟩ := H
  obtain ⟨hi, H⟩ := H
  refine xt_iald dX9_arrive_8 ho5.1 ho5.2 hi ?_
  refine xt_istore_n (lv' := [(2, .int (mAI M b4 (x1 : Int32).toNatClampNeg)), (0, .ref x0), (1, .int x1)]) dX9_arrive_9 rfl (by decide) rfl ?_
  refine xt_aload_n (j := 1) dX9_arrive_10 rfl rfl ?_
  obtain ⟨b6, hb, H⟩ := H
  refine xt_getR dX9_arrive_11 (flX9_33 rfl) ft_11_0 ho1.1 ho1.2 hb ?_
  obtain ⟨ho7, H⟩ := H
  obtain ⟨b8, hb, H⟩ := H
  refine xt_getR dX9_arrive_14 (flX9_149 rfl) ft_10_5 ho7.1 ho7.2 hb ?_
  refine xt_iload_n (j := 0) dX9_arrive_17 rfl rfl ?_
  obtain ⟨ho9, H⟩ := H
  obtain ⟨hi, H⟩ := H
  refine xt_iald dX9_arrive_18 ho9.1 ho9.2 hi ?_
  refine xt_istore_n (lv' := [(3, .int (mAI M b8 (mAI M b4 (x1 : Int32).toNatClampNeg : Int32).toNatClampNeg)), (2, .int (mAI M b4 (x1 : Int32).toNatClampNeg)), (0, .ref x0), (1, .int x1)]) dX9_arrive_19 rfl (by decide) rfl ?_
  refine xt_aload_n (j := 2) dX9_arrive_20 rfl rfl ?_
  obtain ⟨b10, hb, H⟩ := H
  refine xt_getR dX9_arrive_21 (flX9_9 rfl) ft_11_1 ho1.1 ho1.2 hb ?_
  refine xt_iload_n (j := 3) dX9_arrive_24 rfl rfl ?_
  refine xt_aload_n (j := 2) dX9_arrive_25 rfl rfl ?_
  obtain ⟨b11, hb, H⟩ := H
  refine xt_getR dX9_arrive_26 (flX9_9 rfl) ft_11_1 ho1.1 ho1.2 hb ?_
  refine xt_iload_n (j := 1) dX9_arrive_29 rfl rfl ?_
  obtain ⟨ho12, H⟩ := H
  obtain ⟨hi, H⟩ := H
  refine xt_iald dX9_arrive_30 ho12.1 ho12.2 hi ?_
  obtain ⟨ho13, H⟩ := H
  obtain ⟨hi, H⟩ := H
  obtain ⟨M14, eM14⟩ : ∃ z, z = wAI M b10 (x1 : Int32).toNatClampNeg (mAI M b11 (mAI M b4 (x1 : Int32).toNatClampNeg : Int32).toNatClampNeg) := ⟨_, rfl⟩
  have H := H _ eM14
  refine xt_iast dX9_arrive_31 ho13.1 ho13.2 hi ?_
  have ho1 : ok M14 x0 11 := by rw [eM14]; exact ho1
  rw [← eM14]
  refine xt_aload_n (j := 2) dX9_arrive_32 rfl rfl ?_
  obtain ⟨b15, hb, H⟩ := H
  refine xt_getR dX9_arrive_33 (flX9_15 rfl) ft_11_2 ho1.1 ho1.2 hb ?_
  refine xt_iload_n (j := 3) dX9_arrive_36 rfl rfl ?_
  refine xt_aload_n (j := 2) dX9_arrive_37 rfl rfl ?_
  obtain ⟨b16, hb, H⟩ := H
  refine xt_getR dX9_arrive_38 (flX9_15 rfl) ft_11_2 ho1.1 ho1.2 hb ?_
  refine xt_iload_n (j := 1) dX9_arrive_41 rfl rfl ?_
  obtain ⟨ho17, H⟩ := H
  obtain ⟨hi, H⟩ := H
  refine xt_iald dX9_arrive_42 ho17.1 ho17.2 hi ?_
  obtain ⟨ho18, H⟩ := H
  obtain ⟨hi, H⟩ := H
  obtain ⟨M19, eM19⟩ : ∃ z, z = wAI M14 b15 (x1 : Int32).toNatClampNeg (mAI M14 b16 (mAI M b4 (x1 : Int32).toNatClampNeg : Int32).toNatClampNeg) := ⟨_, rfl⟩
  have H := H _ eM19
  refine xt_iast dX9_arrive_43 ho18.1 ho18.2 hi ?_
  have ho1 : ok M19 x0 11 := by rw [eM19]; exact ho1
  rw [← eM19]
  refine xt_aload_n (j := 2) dX9_arrive_44 rfl rfl ?_
  obtain ⟨b20, hb, H⟩ := H
  refine xt_getR dX9_arrive_45 (flX9_18 rfl) ft_11_3 ho1.1 ho1.2 hb ?_
  refine xt_iload_n (j := 3) dX9_arrive_48 rfl rfl ?_
  refine xt_aload_n (j := 2) dX9_arrive_49 rfl rfl ?_
  obtain ⟨b21, hb, H⟩ := H
  refine xt_getR dX9_arrive_50 (flX9_18 rfl) ft_11_3 ho1.1 ho1.2 hb ?_
  refine xt_iload_n (j := 1) dX9_arrive_53 rfl rfl ?_
  obtain ⟨ho22, H⟩ := H
  obtain ⟨hi, H⟩ := H
  refine xt_iald dX9_arrive_54 ho22.1 ho22.2 hi ?_
  obtain ⟨ho23, H⟩ := H
  obtain ⟨hi, H⟩ := H
  obtain ⟨M24, eM24⟩ : ∃ z, z = wAI M19 b20 (x1 : Int32).toNatClampNeg (mAI M19 b21 (mAI M b4 (x1 : Int32).toNatClampNeg : Int32).toNatClampNeg) := ⟨_, rfl⟩
  have H := H _ eM24
  refine xt_iast dX9_arrive_55 ho23.1 ho23.2 hi ?_
  have ho1 : ok M24 x0 11 := by rw [eM24]; exact ho1
  rw [← eM24]
  refine xt_aload_n (j := 2) dX9_arrive_56 rfl rfl ?_
  obtain ⟨b25, hb, H⟩ := H
  refine xt_getR dX9_arrive_57 (flX9_21 rfl) ft_11_4 ho1.1 ho1.2 hb ?_
  refine xt_iload_n (j := 3) dX9_arrive_60 rfl rfl ?_
  refine xt_aload_n (j := 2) dX9_arrive_61 rfl rfl ?_
  obtain ⟨b26, hb, H⟩ := H
  refine xt_getR dX9_arrive_62 (flX9_21 rfl) ft_11_4 ho1.1 ho1.2 hb ?_
  refine xt_iload_n (j := 1) dX9_arrive_65 rfl rfl ?_
  obtain ⟨ho27, H⟩ := H
  obtain ⟨hi, H⟩ := H
  refine xt_iald dX9_arrive_66 ho27.1 ho27.2 hi ?_
  obtain ⟨ho28, H⟩ := H
  obtain ⟨hi, H⟩ := H
  obtain ⟨M29, eM29⟩ : ∃ z, z = wAI M24 b25 (x1 : Int32).toNatClampNeg (mAI M24 b26 (mAI M b4 (x1 : Int32).toNatClampNeg : Int32).toNatClampNeg) := ⟨_, rfl⟩
  have H := H _ eM29
  refine xt_iast dX9_arrive_67 ho28.1 ho28.2 hi ?_
  have ho1 : ok M29 x0 11 := by rw [eM29]; exact ho1
  rw [← eM29]
  refine xt_aload_n (j := 2) dX9_arrive_68 rfl rfl ?_
  obtain ⟨b30, hb, H⟩ := H
  refine xt_getR dX9_arrive_69 (flX9_33 rfl) ft_11_0 ho1.1 ho1.2 hb ?_
  obtain ⟨ho31, H⟩ := H
  obtain ⟨b32, hb, H⟩ := H
  refine xt_getR dX9_arrive_72 (flX9_58 rfl) ft_10_0 ho31.1 ho31.2 hb ?_
  refine xt_iload_n (j := 1) dX9_arrive_75 rfl rfl ?_
  obtain ⟨ho33, H⟩ := H
  obtain ⟨hi, H⟩ := H
  refine xt_iald dX9_arrive_76 ho33.1 ho33.2 hi ?_
  by_cases hsw : (mAI M29 b32 (mAI M b4 (x1 : Int32).toNatClampNeg : Int32).toNatClampNeg : Int32).toInt < 4 ∨ 9 < (mAI M29 b32 (mAI M b4 (x1 : Int32).toNatClampNeg : Int32).toNatClampNeg : Int32).toInt
  · refine xt_tableOut (tgt := 277) dX9_arrive_77 hsw (by decide) ?_
    have H := H.2.2.2.2.2.2 hsw
    exact xt_sub [] rfl (VX9_arrive_277 H)
  · have hsw2 : (mAI M29 b32 (mAI M b4 (x1 : Int32).toNatClampNeg : Int32).toNatClampNeg : Int32).toInt = 4 ∨ (mAI M29 b32 (mAI M b4 (x1 : Int32).toNatClampNeg : Int32).toNatClampNeg : Int32).toInt = 5 ∨ (mAI M29 b32 (mAI M b4 (x1 : Int32).toNatClampNeg : Int32).toNatClampNeg : Int32).toInt = 6 ∨ (mAI M29 b32 (mAI M b4 (x1 : Int32).toNatClampNeg : Int32).toNatClampNeg : Int32).toInt = 7 ∨ (mAI M29 b32 (mAI M b4 (x1 : Int32).toNatClampNeg : Int32).toNatClampNeg : Int32).toInt = 8 ∨ (mAI M29 b32 (mAI M b4 (x1 : Int32).toNatClampNeg : Int32).toNatClampNeg : Int32).toInt = 9 := by omega
    rcases hsw2 with hv | hv | hv | hv | hv | hv
    · have hx : (mAI M29 b32 (mAI M b4 (x1 : Int32).toNatClampNeg : Int32).toNatClampNeg) = 4 := i32_ofInt hv
      have H := H.1 hx
      refine xt_tableIn (tgt := 116) dX9_arrive_77 (by omega) (by omega) (by rw [hv]; rfl) (by decide) ?_
      refine xt_aload_n (j := 2) dX9_arrive_116 rfl rfl ?_
      obtain ⟨b34, hb, H⟩ := H
      refine xt_getR dX9_arrive_117 (flX9_33 rfl) ft_11_0 ho1.1 ho1.2 hb ?_
      obtain ⟨ho35, H⟩ := H
      obtain ⟨b36, hb, H⟩ := H
      refine xt_getR dX9_arrive_120 (flX9_55 rfl) ft_10_1 ho35.1 ho35.2 hb ?_
      refine xt_iload_n (j := 1) dX9_arrive_123 rfl rfl ?_
      obtain ⟨ho37, H⟩ := H
      obtain ⟨hi, H⟩ := H
      refine xt_iald dX9_arrive_124 ho37.1 ho37.2 hi ?_
      refine xt_iload_n (j := 3) dX9_arrive_125 rfl rfl ?_
      refine xt_icmp_ne (tgt := 133) dX9_arrive_126 (by decide) (fun hc => ?_) (fun hc => ?_)
      · have H := H.1 hc
        refine xt_iconst (v := 0) dX9_arrive_133 (by decide) ?_
        exact xt_sub [2, 3, 1, 0] rfl (VX9_arrive_134 H)
      · have H := H.2 hc
        refine xt_iconst (v := 1) dX9_arrive_129 (by decide) ?_
        refine xt_goto (tgt := 134) dX9_arrive_130 (by decide) ?_
        exact xt_sub [2, 3, 1, 0] rfl (VX9_arrive_134 H)
    · have hx : (mAI M29 b32 (mAI M b4 (x1 : Int32).toNatClampNeg : Int32).toNatClampNeg) = 5 := i32_ofInt hv
      have H := H.2.1 hx
      refine xt_tableIn (tgt := 171) dX9_arrive_77 (by omega) (by omega) (by rw [hv]; rfl) (by decide) ?_
      refine xt_aload_n (j := 2) dX9_arrive_171 rfl rfl ?_
      obtain ⟨b38, hb, H⟩ := H
      refine xt_getR dX9_arrive_172 (flX9_9 rfl) ft_11_1 ho1.1 ho1.2 hb ?_
      refine xt_iload_n (j := 3) dX9_arrive_175 rfl rfl ?_
      refine xt_aload_n (j := 2) dX9_arrive_176 rfl rfl ?_
      obtain ⟨b39, hb, H⟩ := H
      refine xt_getR dX9_arrive_177 (flX9_30 rfl) ft_11_7 ho1.1 ho1.2 hb ?_
      refine xt_iload_n (j := 1) dX9_arrive_180 rfl rfl ?_
      refine xt_bipush (v := 20) dX9_arrive_181 (by decide) ?_
      refine xt_imul dX9_arrive_183 ?_
      obtain ⟨ho40, H⟩ := H
      obtain ⟨hi, H⟩ := H
      refine xt_iald dX9_arrive_184 ho40.1 ho40.2 hi ?_
      obtain ⟨ho41, H⟩ := H
      obtain ⟨hi, H⟩ := H
      obtain ⟨M42, eM42⟩ : ∃ z, z = wAI M29 b38 (x1 : Int32).toNatClampNeg (mAI M29 b39 ((mAI M b4 (x1 : Int32).toNatClampNeg) * 20 : Int32).toNatClampNeg) := ⟨_, rfl⟩
      have H := H _ eM42
      refine xt_iast dX9_arrive_185 ho41.1 ho41.2 hi ?_
      have ho1 : ok M42 x0 11 := by rw [eM42]; exact ho1
      rw [← eM42]
      refine xt_goto (tgt := 277) dX9_arrive_186 (by decide) ?_
      exact xt_sub [] rfl (VX9_arrive_277 H)
    · have hx : (mAI M29 b32 (mAI M b4 (x1 : Int32).toNatClampNeg : Int32).toNatClampNeg) = 6 := i32_ofInt hv
      have H := H.2.2.1 hx
      refine xt_tableIn (tgt := 189) dX9_arrive_77 (by omega) (by omega) (by rw [hv]; rfl) (by decide) ?_
      refine xt_aload_n (j := 2) dX9_arrive_189 rfl rfl ?_
      obtain ⟨b43, hb, H⟩ := H
      refine xt_getR dX9_arrive_190 (flX9_9 rfl) ft_11_1 ho1.1 ho1.2 hb ?_
      refine xt_iload_n (j := 3) dX9_arrive_193 rfl rfl ?_
      refine xt_aload_n (j := 2) dX9_arrive_194 rfl rfl ?_
      obtain ⟨b44, hb, H⟩ := H
      refine xt_getR dX9_arrive_195 (flX9_24 rfl) ft_11_5 ho1.1 ho1.2 hb ?_
      refine xt_iload_n (j := 1) dX9_arrive_198 rfl rfl ?_
      obtain ⟨ho45, H⟩ := H
      obtain ⟨hi, H⟩ := H
      refine xt_iald dX9_arrive_199 ho45.1 ho45.2 hi ?_
      obtain ⟨ho46, H⟩ := H
      obtain ⟨hi, H⟩ := H
      obtain ⟨M47, eM47⟩ : ∃ z, z = wAI M29 b43 (x1 : Int32).toNatClampNeg (mAI M29 b44 (mAI M b4 (x1 : Int32).toNatClampNeg : Int32).toNatClampNeg) := ⟨_, rfl⟩
      have H := H _ eM47
      refine xt_iast dX9_arrive_200 ho46.1 ho46.2 hi ?_
      have ho1 : ok M47 x0 11 := by rw [eM47]; exact ho1
      rw [← eM47]
      refine xt_goto (tgt := 277) dX9_arrive_201 (by decide) ?_
      exact xt_sub [] rfl (VX9_arrive_277 H)
    · have hx : (mAI M29 b32 (mAI M b4 (x1 : Int32).toNatClampNeg : Int32).toNatClampNeg) = 7 := i32_ofInt hv
      have H := H.2.2.2.1 hx
      refine xt_tableIn (tgt := 204) dX9_arrive_77 (by omega) (by omega) (by rw [hv]; rfl) (by decide) ?_
      refine xt_aload_n (j := 2) dX9_arrive_204 rfl rfl ?_
      refine xt_iload_n (j := 1) dX9_arrive_205 rfl rfl ?_
      refine xt_callV (h2 := h) (as := [.int (mAI M b4 (x1 : Int32).toNatClampNeg)]) (st := []) dX9_arrive_206 (mlX9_156 rfl) rfl ho1.1 ⟨by rw [ho1.2]; rfl, by rw [ho1.2]; decide⟩ (by first | decide | (simp [Value.category]; done)) (Nat.le_refl _) H (fun r M48 HH hE => ?_)
      obtain ⟨r49, hr, H⟩ := HH hE
      subst hr
      have ho1 := ok_E ho1 hE
      show T _ _ _ _ [.int r49] _ _
      refine xt_istore (lv' := [(5, .int r49), (3, .int (mAI M b8 (mAI M b4 (x1 : Int32).toNatClampNeg : Int32).toNatClampNeg)), (2, .int (mAI M b4 (x1 : Int32).toNatClampNeg)), (0, .ref x0), (1, .int x1)]) dX9_arrive_209 (by decide) rfl ?_
      refine xt_aload_n (j := 3) dX9_arrive_211 rfl rfl ?_
      obtain ⟨b50, hb, H⟩ := H
      refine xt_getR dX9_arrive_212 (flX9_15 rfl) ft_11_2 ho1.1 ho1.2 hb ?_
      refine xt_iload_n (j := 4) dX9_arrive_215 rfl rfl ?_
      refine xt_aload_n (j := 3) dX9_arrive_216 rfl rfl ?_
      obtain ⟨b51, hb, H⟩ := H
      refine xt_getR dX9_arrive_217 (flX9_80 rfl) ft_11_8 ho1.1 ho1.2 hb ?_
      refine xt_iload (j := 0) dX9_arrive_220 rfl ?_
      refine xt_iload_n (j := 1) dX9_arrive_222 rfl rfl ?_
      refine xt_callS (h2 := h) (as := [.int (mAI M b8 (mAI M b4 (x1 : Int32).toNatClampNeg : Int32).toNatClampNeg)]) (st := [.int r49, .ref b51, .int x1, .ref b50]) dX9_arrive_223 (mlX9_85 rfl) rfl (by first | decide | (simp [Value.category]; done)) (Nat.le_refl _) H (fun r M52 HH hE => ?_)
      obtain ⟨r53, hr, H⟩ := HH hE
      subst hr
      have ho1 := ok_E ho1 hE
      show T _ _ _ _ [.int r53, .int r49, .ref b51, .int x1, .ref b50] _ _
      obtain ⟨ho54, H⟩ := H
      refine xt_callV (h2 := h) (as := [.int r49, .int r53]) (st := [.int x1, .ref b50]) dX9_arrive_226 (mlX9_152 rfl) rfl ho54.1 ⟨by rw [ho54.2]; rfl, by rw [ho54.2]; decide⟩ (by first | decide | (simp [Value.category]; done)) (Nat.le_refl _) H (fun r M55 HH hE => ?_)
      obtain ⟨r56, hr, H⟩ := HH hE
      subst hr
      have ho1 := ok_E ho1 hE
      show T _ _ _ _ [.int r56, .int x1, .ref b50] _ _
      obtain ⟨ho57, H⟩ := H
      obtain ⟨hi, H⟩ := H
      obtain ⟨M58, eM58⟩ : ∃ z, z = wAI M55 b50 (x1 : Int32).toNatClampNeg r56 := ⟨_, rfl⟩
      have H := H _ eM58
      refine xt_iast dX9_arrive_229 ho57.1 ho57.2 hi ?_
      have ho1 : ok M58 x0 11 := by rw [eM58]; exact ho1
      rw [← eM58]
      refine xt_aload_n (j := 3) dX9_arrive_230 rfl rfl ?_
      obtain ⟨b59, hb, H⟩ := H
      refine xt_getR dX9_arrive_231 (flX9_18 rfl) ft_11_3 ho1.1 ho1.2 hb ?_
      refine xt_iload_n (j := 4) dX9_arrive_234 rfl rfl ?_
      refine xt_aload_n (j := 3) dX9_arrive_235 rfl rfl ?_
      obtain ⟨b60, hb, H⟩ := H
      refine xt_getR dX9_arrive_236 (flX9_80 rfl) ft_11_8 ho1.1 ho1.2 hb ?_
      refine xt_aload_n (j := 3) dX9_arrive_239 rfl rfl ?_
      obtain ⟨b61, hb, H⟩ := H
      refine xt_getR dX9_arrive_240 (flX9_18 rfl) ft_11_3 ho1.1 ho1.2 hb ?_
      refine xt_iload_n (j := 2) dX9_arrive_243 rfl rfl ?_
      obtain ⟨ho62, H⟩ := H
      obtain ⟨hi, H⟩ := H
      refine xt_iald dX9_arrive_244 ho62.1 ho62.2 hi ?_
      refine xt_aload_n (j := 3) dX9_arrive_245 rfl rfl ?_
      obtain ⟨b63, hb, H⟩ := H
      refine xt_getR dX9_arrive_246 (flX9_80 rfl) ft_11_8 ho1.1 ho1.2 hb ?_
      refine xt_iload (j := 0) dX9_arrive_249 rfl ?_
      refine xt_iload_n (j := 1) dX9_arrive_251 rfl rfl ?_
      obtain ⟨ho64, H⟩ := H
      refine xt_callV (h2 := h) (as := [.int r49, .int (mAI M b8 (mAI M b4 (x1 : Int32).toNatClampNeg : Int32).toNatClampNeg)]) (st := [.int (mAI M58 b61 (mAI M b4 (x1 : Int32).toNatClampNeg : Int32).toNatClampNeg), .ref b60, .int x1, .ref b59]) dX9_arrive_252 (mlX9_152 rfl) rfl ho64.1 ⟨by rw [ho64.2]; rfl, by rw [ho64.2]; decide⟩ (by first | decide | (simp [Value.category]; done)) (Nat.le_refl _) H (fun r M65 HH hE => ?_)
      obtain ⟨r66, hr, H⟩ := HH hE
      subst hr
      have ho1 := ok_E ho1 hE
      show T _ _ _ _ [.int r66, .int (mAI M58 b61 (mAI M b4 (x1 : Int32).toNatClampNeg : Int32).toNatClampNeg), .ref b60, .int x1, .ref b59] _ _
      obtain ⟨ho67, H⟩ := H
      refine xt_callV (h2 := h) (as := [.int (mAI M58 b61 (mAI M b4 (x1 : Int32).toNatClampNeg : Int32).toNatClampNeg), .int r66]) (st := [.int x1, .ref b59]) dX9_arrive_255 (mlX9_159 rfl) rfl ho67.1 ⟨by rw [ho67.2]; rfl, by rw [ho67.2]; decide⟩ (by first | decide | (simp [Value.category]; done)) (Nat.le_refl _) H (fun r M68 HH hE => ?_)
      obtain ⟨r69, hr, H⟩ := HH hE
      subst hr
      have ho1 := ok_E ho1 hE
      show T _ _ _ _ [.int r69, .int x1, .ref b59] _ _
      obtain ⟨ho70, H⟩ := H
      obtain ⟨hi, H⟩ := H
      obtain ⟨M71, eM71⟩ : ∃ z, z = wAI M68 b59 (x1 : Int32).toNatClampNeg r69 := ⟨_, rfl⟩
      have H := H _ eM71
      refine xt_iast dX9_arrive_258 ho70.1 ho70.2 hi ?_
      have ho1 : ok M71 x0 11 := by rw [eM71]; exact ho1
      rw [← eM71]
      refine xt_goto (tgt := 277) dX9_arrive_259 (by decide) ?_
      exact xt_sub [] rfl (VX9_arrive_277 H)
    · have hx : (mAI M29 b32 (mAI M b4 (x1 : Int32).toNatClampNeg : Int32).toNatClampNeg) = 8 := i32_ofInt hv
      have H := H.2.2.2.2.1 hx
      refine xt_tableIn (tgt := 277) dX9_arrive_77 (by omega) (by omega) (by rw [hv]; rfl) (by decide) ?_
      exact xt_sub [] rfl (VX9_arrive_277 H)
    · have hx : (mAI M29 b32 (mAI M b4 (x1 : Int32).toNatClampNeg : Int32).toNatClampNeg) = 9 := i32_ofInt hv
      have H := H.2.2.2.2.2.1 hx
      refine xt_tableIn (tgt := 262) dX9_arrive_77 (by omega) (by omega) (by rw [hv]; rfl) (by decide) ?_
      refine xt_aload_n (j := 2) dX9_arrive_262 rfl rfl ?_
      obtain ⟨b72, hb, H⟩ := H
      refine xt_getR dX9_arrive_263 (flX9_21 rfl) ft_11_4 ho1.1 ho1.2 hb ?_
      refine xt_iload_n (j := 3) dX9_arrive_266 rfl rfl ?_
      refine xt_aload_n (j := 2) dX9_arrive_267 rfl rfl ?_
      obtain ⟨b73, hb, H⟩ := H
      refine xt_getR dX9_arrive_268 (flX9_24 rfl) ft_11_5 ho1.1 ho1.2 hb ?_
      refine xt_iload_n (j := 1) dX9_arrive_271 rfl rfl ?_
      obtain ⟨ho74, H⟩ := H
      obtain ⟨hi, H⟩ := H
      refine xt_iald dX9_arrive_272 ho74.1 ho74.2 hi ?_
      obtain ⟨ho75, H⟩ := H
      obtain ⟨hi, H⟩ := H
      obtain ⟨M76, eM76⟩ : ∃ z, z = wAI M29 b72 (x1 : Int32).toNatClampNeg (mAI M29 b73 (mAI M b4 (x1 : Int32).toNatClampNeg : Int32).toNatClampNeg) := ⟨_, rfl⟩
      have H := H _ eM76
      refine xt_iast dX9_arrive_273 ho75.1 ho75.2 hi ?_
      have ho1 : ok M76 x0 11 := by rw [eM76]; exact ho1
      rw [← eM76]
      refine xt_goto (tgt := 277) dX9_arrive_274 (by decide) ?_
      exact xt_sub [] rfl (VX9_arrive_277 H)
theorem KX9_arrive {h : Nat} {x0 : Nat} {x1 : Int32} {M : Mem} {Q : Option Value → Mem → Prop} (H : DX9_arrive_0 h x0 x1 M Q) : E (h + 1) mdX9_arrive [.ref x0, .int x1] M Q := E.of (by decide) (Nat.le_of_ble_eq_true rfl) (fun _ _ _ => trivial) (VX9_arrive_0 H)
def DX9_resumed_0 (h : Nat) (x0 : Nat) (x1 : Int32) (M : Mem) (Q : Option Value → Mem → Prop) : Prop :=
  ok M x0 11 ∧ ∃ b2 : Nat, mR M x0 8 = some b2 ∧ ∃ b3 : Nat, mR M x0 2 = some b3 ∧ ok M b3 21 ∧ vp_in x1 (mL M b3) ∧ ∃ b5 : Nat, mR M x0 8 = some b5 ∧ ∃ b6 : Nat, mR M x0 0 = some b6 ∧ ok M b6 10 ∧ ∃ b8 : Nat, mR M b6 7 = some b8 ∧ ok M b8 21 ∧ vp_in x1 (mL M b8) ∧ ok M b5 2 ∧ E h mdX0_holding [.ref b5, .int (mAI M b8 (x1 : Int32).toNatClampNeg)] M (fun r M11 => mE M M11 → ∃ r12 : Int32, r = some (.int r12) ∧ ok M11 b2 2 ∧ E h mdX0_and [.ref b2, .int (mAI M b3 (x1 : Int32).toNatClampNeg), .int r12] M11 (fun r M14 => mE M11 M14 → ∃ r15 : Int32, r = some (.int r15) ∧ Q (some (.int r15)) M14))
set_option maxRecDepth 20000 in
set_option maxHeartbeats 2000000 in
theorem VX9_resumed_0 {h : Nat} {x0 : Nat} {x1 : Int32} {M : Mem} {Q : Option Value → Mem → Prop} (H : DX9_resumed_0 h x0 x1 M Q) : T (h + 1) mdX9_resumed 0 [(0, .ref x0), (1, .int x1)] [] M Q := by
  unfold DX9_resumed_0 at H
  refine xt_aload_n (j := 0) dX9_resumed_0 rfl rfl ?_
  obtain ⟨ho1, H⟩ := H
  obtain ⟨b2, hb, H⟩ := H
  refine xt_getR dX9_resumed_1 (flX9_80 rfl) ft_11_8 ho1.1 ho1.2 hb ?_
  refine xt_aload_n (j := 0) dX9_resumed_4 rfl rfl ?_
  obtain ⟨b3, hb, H⟩ := H
  refine xt_getR dX9_resumed_5 (flX9_15 rfl) ft_11_2 ho1.1 ho1.2 hb ?_
  refine xt_iload_n (j := 1) dX9_resumed_8 rfl rfl ?_
  obtain ⟨ho4, H⟩ := H
  obtain ⟨hi, H⟩ := H
  refine xt_iald dX9_resumed_9 ho4.1 ho4.2 hi ?_
  refine xt_aload_n (j := 0) dX9_resumed_10 rfl rfl ?_
  obtain ⟨b5, hb, H⟩ := H
  refine xt_getR dX9_resumed_11 (flX9_80 rfl) ft_11_8 ho1.1 ho1.2 hb ?_
  refine xt_aload_n (j := 0) dX9_resumed_14 rfl rfl ?_
  obtain ⟨b6, hb, H⟩ := H
  refine xt_getR dX9_resumed_15 (flX9_33 rfl) ft_11_0 ho1.1 ho1.2 hb ?_
  obtain ⟨ho7, H⟩ := H
  obtain ⟨b8, hb, H⟩ := H
  refine xt_getR dX9_resumed_18 (flX9_133 rfl) ft_10_7 ho7.1 ho7.2 hb ?_
  refine xt_iload_n (j := 1) dX9_resumed_21 rfl rfl ?_
  obtain ⟨ho9, H⟩ := H
  obtain ⟨hi, H⟩ := H
  refine xt_iald dX9_resumed_22 ho9.1 ho9.2 hi ?_
  obtain ⟨ho10, H⟩ := H
  refine xt_callV (h2 := h) (as := [.int (mAI M b8 (x1 : Int32).toNatClampNeg)]) (st := [.int (mAI M b3 (x1 : Int32).toNatClampNeg), .ref b2]) dX9_resumed_23 (mlX9_162 rfl) rfl ho10.1 ⟨by rw [ho10.2]; rfl, by rw [ho10.2]; decide⟩ (by first | decide | (simp [Value.category]; done)) (Nat.le_refl _) H (fun r M11 HH hE => ?_)
  obtain ⟨r12, hr, H⟩ := HH hE
  subst hr
  have ho1 := ok_E ho1 hE
  show T _ _ _ _ [.int r12, .int (mAI M b3 (x1 : Int32).toNatClampNeg), .ref b2] _ _
  obtain ⟨ho13, H⟩ := H
  refine xt_callV (h2 := h) (as := [.int (mAI M b3 (x1 : Int32).toNatClampNeg), .int r12]) (st := []) dX9_resumed_26 (mlX9_152 rfl) rfl ho13.1 ⟨by rw [ho13.2]; rfl, by rw [ho13.2]; decide⟩ (by first | decide | (simp [Value.category]; done)) (Nat.le_refl _) H (fun r M14 HH hE => ?_)
  obtain ⟨r15, hr, H⟩ := HH hE
  subst hr
  have ho1 := ok_E ho1 hE
  show T _ _ _ _ [.int r15] _ _
  exact xt_ireturn dX9_resumed_29 rfl H
theorem KX9_resumed {h : Nat} {x0 : Nat} {x1 : Int32} {M : Mem} {Q : Option Value → Mem → Prop} (H : DX9_resumed_0 h x0 x1 M Q) : E (h + 1) mdX9_resumed [.ref x0, .int x1] M Q := E.of (by decide) (Nat.le_of_ble_eq_true rfl) (fun _ _ _ => trivial) (VX9_resumed_0 H)
def DX9_enter_255 (h : Nat) (M : Mem) (Q : Option Value → Mem → Prop) : Prop :=
  Q none M
set_option maxRecDepth 20000 in
set_option maxHeartbeats 2000000 in
theorem VX9_enter_255 {h : Nat} {M : Mem} {Q : Option Value → Mem → Prop} (H : DX9_enter_255 h  M Q) : T (h + 1) mdX9_enter 255 [] [] M Q := by
  unfold DX9_enter_255 at H
  exact xt_return dX9_enter_255 rfl H
def DX9_enter_0 (h : Nat) (x0 : Nat) (x1 : Int32) (M : Mem) (Q : Option Value → Mem → Prop) : Prop :=
  ok M x0 11 ∧ ∃ b2 : Nat, mR M x0 7 = some b2 ∧ E h mdJ7_fill_fda19 [.ref b2, .int (x1 * 20), .int ((x1 * 20) + 20), .int 0] M (fun r M3 => mE M M3 → r = none ∧ ∃ b4 : Nat, mR M3 x0 0 = some b4 ∧ ok M3 b4 10 ∧ ∃ b6 : Nat, mR M3 b4 6 = some b6 ∧ ok M3 b6 21 ∧ vp_in x1 (mL M3 b6) ∧ ∃ b8 : Nat, mR M3 x0 0 = some b8 ∧ ok M3 b8 10 ∧ ∃ b10 : Nat, mR M3 b8 0 = some b10 ∧ ok M3 b10 21 ∧ vp_in x1 (mL M3 b10) ∧ ((mAI M3 b10 (x1 : Int32).toNatClampNeg) = 0 → ∃ b12 : Nat, mR M3 x0 7 = some b12 ∧ ∃ b13 : Nat, mR M3 x0 1 = some b13 ∧ ok M3 b13 21 ∧ vp_in x1 (mL M3 b13) ∧ ok M3 b12 21 ∧ vp_in (x1 * 20) (mL M3 b12) ∧ ∀ M16 : Mem, M16 = wAI M3 b12 (x1 * 20 : Int32).toNatClampNeg (mAI M3 b13 (x1 : Int32).toNatClampNeg) →
  DX9_enter_255 h  M16 Q) ∧
  ((mAI M3 b10 (x1 : Int32).toNatClampNeg) = 1 → ∃ b17 : Nat, mR M3 x0 8 = some b17 ∧ ∃ b18 : Nat, mR M3 x0 1 = some b18 ∧ ok M3 b18 21 ∧ vp_in x1 (mL M3 b18) ∧ ∃ b20 : Nat, mR M3 x0 3 = some b20 ∧ ok M3 b20 21 ∧ vp_in x1 (mL M3 b20) ∧ ∃ b22 : Nat, mR M3 x0 4 = some b22 ∧ ok M3 b22 21 ∧ vp_in x1 (mL M3 b22) ∧ ok M3 b17 2 ∧ E h mdX0_addPause [.ref b17, .int (mAI M3 b6 (x1 : Int32).toNatClampNeg), .int (mAI M3 b18 (x1 : Int32).toNatClampNeg), .int (mAI M3 b20 (x1 : Int32).toNatClampNeg), .int (mAI M3 b22 (x1 : Int32).toNatClampNeg)] M3 (fun r M25 => mE M3 M25 → r = none ∧ ∃ b26 : Nat, mR M25 x0 7 = some b26 ∧ E h mdX9_resumed [.ref x0, .int x1] M25 (fun r M27 => mE M25 M27 → ∃ r28 : Int32, r = some (.int r28) ∧ ok M27 b26 21 ∧ vp_in (x1 * 20) (mL M27 b26) ∧ ∀ M30 : Mem, M30 = wAI M27 b26 (x1 * 20 : Int32).toNatClampNeg r28 →
  ∃ b31 : Nat, mR M30 x0 7 = some b31 ∧ ∃ b32 : Nat, mR M30 x0 1 = some b32 ∧ ok M30 b32 21 ∧ vp_in x1 (mL M30 b32) ∧ ok M30 b31 21 ∧ vp_in ((x1 * 20) + 1) (mL M30 b31) ∧ ∀ M35 : Mem, M35 = wAI M30 b31 ((x1 * 20) + 1 : Int32).toNatClampNeg (mAI M30 b32 (x1 : Int32).toNatClampNeg) →
  DX9_enter_255 h  M35 Q))) ∧
  ((mAI M3 b10 (x1 : Int32).toNatClampNeg) = 2 → ∃ b36 : Nat, mR M3 x0 8 = some b36 ∧ ok M3 b36 2 ∧ ∃ b38 : Nat, mR M3 b36 14 = some b38 ∧ ∃ b39 : Nat, mR M3 x0 8 = some b39 ∧ ∃ b40 : Nat, mR M3 x0 8 = some b40 ∧ ok M3 b40 2 ∧ ∃ b42 : Nat, mR M3 b40 14 = some b42 ∧ ok M3 b42 21 ∧ vp_in (mAI M3 b6 (x1 : Int32).toNatClampNeg) (mL M3 b42) ∧ ∃ b44 : Nat, mR M3 x0 1 = some b44 ∧ ok M3 b44 21 ∧ vp_in x1 (mL M3 b44) ∧ ok M3 b39 2 ∧ E h mdX0_or [.ref b39, .int (mAI M3 b42 (mAI M3 b6 (x1 : Int32).toNatClampNeg : Int32).toNatClampNeg), .int (mAI M3 b44 (x1 : Int32).toNatClampNeg)] M3 (fun r M47 => mE M3 M47 → ∃ r48 : Int32, r = some (.int r48) ∧ ok M47 b38 21 ∧ vp_in (mAI M3 b6 (x1 : Int32).toNatClampNeg) (mL M47 b38) ∧ ∀ M50 : Mem, M50 = wAI M47 b38 (mAI M3 b6 (x1 : Int32).toNatClampNeg : Int32).toNatClampNeg r48 →
  ∃ b51 : Nat, mR M50 x0 7 = some b51 ∧ ∃ b52 : Nat, mR M50 x0 1 = some b52 ∧ ok M50 b52 21 ∧ vp_in x1 (mL M50 b52) ∧ ok M50 b51 21 ∧ vp_in (x1 * 20) (mL M50 b51) ∧ ∀ M55 : Mem, M55 = wAI M50 b51 (x1 * 20 : Int32).toNatClampNeg (mAI M50 b52 (x1 : Int32).toNatClampNeg) →
  DX9_enter_255 h  M55 Q)) ∧
  ((mAI M3 b10 (x1 : Int32).toNatClampNeg) = 3 → ∃ b56 : Nat, mR M3 x0 7 = some b56 ∧ ∃ b57 : Nat, mR M3 x0 1 = some b57 ∧ ok M3 b57 21 ∧ vp_in x1 (mL M3 b57) ∧ ok M3 b56 21 ∧ vp_in ((x1 * 20) + (mAI M3 b6 (x1 : Int32).toNatClampNeg)) (mL M3 b56) ∧ ∀ M60 : Mem, M60 = wAI M3 b56 ((x1 * 20) + (mAI M3 b6 (x1 : Int32).toNatClampNeg) : Int32).toNatClampNeg (mAI M3 b57 (x1 : Int32).toNatClampNeg) →
  DX9_enter_255 h  M60 Q) ∧
  ((mAI M3 b10 (x1 : Int32).toNatClampNeg) = 4 → DX9_enter_255 h  M3 Q) ∧
  ((mAI M3 b10 (x1 : Int32).toNatClampNeg) = 5 → ∃ b61 : Nat, mR M3 x0 7 = some b61 ∧ ∃ b62 : Nat, mR M3 x0 1 = some b62 ∧ ok M3 b62 21 ∧ vp_in x1 (mL M3 b62) ∧ ok M3 b61 21 ∧ vp_in (x1 * 20) (mL M3 b61) ∧ ∀ M65 : Mem, M65 = wAI M3 b61 (x1 * 20 : Int32).toNatClampNeg (mAI M3 b62 (x1 : Int32).toNatClampNeg) →
  DX9_enter_255 h  M65 Q) ∧
  ((mAI M3 b10 (x1 : Int32).toNatClampNeg) = 6 → ∃ b66 : Nat, mR M3 x0 5 = some b66 ∧ ∃ b67 : Nat, mR M3 x0 8 = some b67 ∧ ok M3 b67 2 ∧ E h mdX0_fresh [.ref b67] M3 (fun r M69 => mE M3 M69 → ∃ r70 : Int32, r = some (.int r70) ∧ ok M69 b66 21 ∧ vp_in x1 (mL M69 b66) ∧ ∀ M72 : Mem, M72 = wAI M69 b66 (x1 : Int32).toNatClampNeg r70 →
  DX9_enter_255 h  M72 Q)) ∧
  ((mAI M3 b10 (x1 : Int32).toNatClampNeg) = 7 → DX9_enter_255 h  M3 Q) ∧
  ((mAI M3 b10 (x1 : Int32).toNatClampNeg) = 8 → DX9_enter_255 h  M3 Q) ∧
  ((mAI M3 b10 (x1 : Int32).toNatClampNeg) = 9 → ∃ b73 : Nat, mR M3 x0 5 = some b73 ∧ ∃ b74 : Nat, mR M3 x0 8 = some b74 ∧ ok M3 b74 2 ∧ E h mdX0_fresh [.ref b74] M3 (fun r M76 => mE M3 M76 → ∃ r77 : Int32, r = some (.int r77) ∧ ok M76 b73 21 ∧ vp_in x1 (mL M76 b73) ∧ ∀ M79 : Mem, M79 = wAI M76 b73 (x1 : Int32).toNatClampNeg r77 →
  DX9_enter_255 h  M79 Q)) ∧
  (((mAI M3 b10 (x1 : Int32).toNatClampNeg : Int32).toInt < 0 ∨ 9 < (mAI M3 b10 (x1 : Int32).toNatClampNeg : Int32).toInt) → DX9_enter_255 h  M3 Q))
set_option maxRecDepth 20000 in
set_option maxHeartbeats 2000000 in
theorem VX9_enter_0 {h : Nat} {x0 : Nat} {x1 : Int32} {M : Mem} {Q : Option Value → Mem → Prop} (H : DX9_enter_0 h x0 x1 M Q) : T (h + 1) mdX9_enter 0 [(0, .ref x0), (1, .int x1)] [] M Q := by
  unfold DX9_enter_0 at H
  refine xt_aload_n (j := 0) dX9_enter_0 rfl rfl ?_
  obtain ⟨ho1, H⟩ := H
  obtain ⟨b2, hb, H⟩ := H
  refine xt_getR dX9_enter_1 (flX9_30 rfl) ft_11_7 ho1.1 ho1.2 hb ?_
  refine xt_iload_n (j := 1) dX9_enter_4 rfl rfl ?_
  refine xt_bipush (v := 20) dX9_enter_5 (by decide) ?_
  refine xt_imul dX9_enter_7 ?_
  refine xt_iload_n (j := 1) dX9_enter_8 rfl rfl ?_
  refine xt_bipush (v := 20) dX9_enter_9 (by decide) ?_
  refine xt_imul dX9_enter_11 ?_
  refine xt_bipush (v := 20) dX9_enter_12 (by decide) ?_
  refine xt_iadd dX9_enter_14 ?_
  refine xt_iconst (v := 0) dX9_enter_15 (by decide) ?_
  refine xt_callS (h2 := h) (as := [.ref b2, .int (x1 * 20), .int ((x1 * 20) + 20), .int 0]) (st := []) dX9_enter_16 (mlX9_165 rfl) rfl (by first | decide | (simp [Value.category]; done)) (Nat.le_refl _) H (fun r M3 HH hE => ?_)
  obtain ⟨hr, H⟩ := HH hE
  subst hr
  have ho1 := ok_E ho1 hE
  show T _ _ _ _ [] _ _
  refine xt_aload_n (j := 0) dX9_enter_19 rfl rfl ?_
  obtain ⟨b4, hb, H⟩ := H
  refine xt_getR dX9_enter_20 (flX9_33 rfl) ft_11_0 ho1.1 ho1.2 hb ?_
  obtain ⟨ho5, H⟩ := H
  obtain ⟨b6, hb, H⟩ := H
  refine xt_getR dX9_enter_23 (flX9_171 rfl) ft_10_6 ho5.1 ho5.2 hb ?_
  refine xt_iload_n (j := 1) dX9_enter_26 rfl rfl ?_
  obtain ⟨ho7, H⟩ := H
  obtain ⟨hi, H⟩ := H
  refine xt_iald dX9_enter_27 ho7.1 ho7.2 hi ?_
  refine xt_istore_n (lv' := [(2, .int (mAI M3 b6 (x1 : Int32).toNatClampNeg)), (0, .ref x0), (1, .int x1)]) dX9_enter_28 rfl (by decide) rfl ?_
  refine xt_aload_n (j := 1) dX9_enter_29 rfl rfl ?_
  obtain ⟨b8, hb, H⟩ := H
  refine xt_getR dX9_enter_30 (flX9_33 rfl) ft_11_0 ho1.1 ho1.2 hb ?_
  obtain ⟨ho9, H⟩ := H
  obtain ⟨b10, hb, H⟩ := H
  refine xt_getR dX9_enter_33 (flX9_58 rfl) ft_10_0 ho9.1 ho9.2 hb ?_
  refine xt_iload_n (j := 2) dX9_enter_36 rfl rfl ?_
  obtain ⟨ho11, H⟩ := H
  obtain ⟨hi, H⟩ := H
  refine xt_iald dX9_enter_37 ho11.1 ho11.2 hi ?_
  by_cases hsw : (mAI M3 b10 (x1 : Int32).toNatClampNeg : Int32).toInt < 0 ∨ 9 < (mAI M3 b10 (x1 : Int32).toNatClampNeg : Int32).toInt
  · refine xt_tableOut (tgt := 255) dX9_enter_38 hsw (by decide) ?_
    have H := H.2.2.2.2.2.2.2.2.2.2 hsw
    exact xt_sub [] rfl (VX9_enter_255 H)
  · have hsw2 : (mAI M3 b10 (x1 : Int32).toNatClampNeg : Int32).toInt = 0 ∨ (mAI M3 b10 (x1 : Int32).toNatClampNeg : Int32).toInt = 1 ∨ (mAI M3 b10 (x1 : Int32).toNatClampNeg : Int32).toInt = 2 ∨ (mAI M3 b10 (x1 : Int32).toNatClampNeg : Int32).toInt = 3 ∨ (mAI M3 b10 (x1 : Int32).toNatClampNeg : Int32).toInt = 4 ∨ (mAI M3 b10 (x1 : Int32).toNatClampNeg : Int32).toInt = 5 ∨ (mAI M3 b10 (x1 : Int32).toNatClampNeg : Int32).toInt = 6 ∨ (mAI M3 b10 (x1 : Int32).toNatClampNeg : Int32).toInt = 7 ∨ (mAI M3 b10 (x1 : Int32).toNatClampNeg : Int32).toInt = 8 ∨ (mAI M3 b10 (x1 : Int32).toNatClampNeg : Int32).toInt = 9 := by omega
    rcases hsw2 with hv | hv | hv | hv | hv | hv | hv | hv | hv | hv
    · have hx : (mAI M3 b10 (x1 : Int32).toNatClampNeg) = 0 := i32_ofInt hv
      have H := H.1 hx
      refine xt_tableIn (tgt := 221) dX9_enter_38 (by omega) (by omega) (by rw [hv]; rfl) (by decide) ?_
      refine xt_aload_n (j := 1) dX9_enter_221 rfl rfl ?_
      obtain ⟨b12, hb, H⟩ := H
      refine xt_getR dX9_enter_222 (flX9_30 rfl) ft_11_7 ho1.1 ho1.2 hb ?_
      refine xt_iload_n (j := 2) dX9_enter_225 rfl rfl ?_
      refine xt_bipush (v := 20) dX9_enter_226 (by decide) ?_
      refine xt_imul dX9_enter_228 ?_
      refine xt_aload_n (j := 1) dX9_enter_229 rfl rfl ?_
      obtain ⟨b13, hb, H⟩ := H
      refine xt_getR dX9_enter_230 (flX9_9 rfl) ft_11_1 ho1.1 ho1.2 hb ?_
      refine xt_iload_n (j := 2) dX9_enter_233 rfl rfl ?_
      obtain ⟨ho14, H⟩ := H
      obtain ⟨hi, H⟩ := H
      refine xt_iald dX9_enter_234 ho14.1 ho14.2 hi ?_
      obtain ⟨ho15, H⟩ := H
      obtain ⟨hi, H⟩ := H
      obtain ⟨M16, eM16⟩ : ∃ z, z = wAI M3 b12 (x1 * 20 : Int32).toNatClampNeg (mAI M3 b13 (x1 : Int32).toNatClampNeg) := ⟨_, rfl⟩
      have H := H _ eM16
      refine xt_iast dX9_enter_235 ho15.1 ho15.2 hi ?_
      have ho1 : ok M16 x0 11 := by rw [eM16]; exact ho1
      rw [← eM16]
      refine xt_goto (tgt := 255) dX9_enter_236 (by decide) ?_
      exact xt_sub [] rfl (VX9_enter_255 H)
    · have hx : (mAI M3 b10 (x1 : Int32).toNatClampNeg) = 1 := i32_ofInt hv
      have H := H.2.1 hx
      refine xt_tableIn (tgt := 92) dX9_enter_38 (by omega) (by omega) (by rw [hv]; rfl) (by decide) ?_
      refine xt_aload_n (j := 1) dX9_enter_92 rfl rfl ?_
      obtain ⟨b17, hb, H⟩ := H
      refine xt_getR dX9_enter_93 (flX9_80 rfl) ft_11_8 ho1.1 ho1.2 hb ?_
      refine xt_iload_n (j := 0) dX9_enter_96 rfl rfl ?_
      refine xt_aload_n (j := 1) dX9_enter_97 rfl rfl ?_
      obtain ⟨b18, hb, H⟩ := H
      refine xt_getR dX9_enter_98 (flX9_9 rfl) ft_11_1 ho1.1 ho1.2 hb ?_
      refine xt_iload_n (j := 2) dX9_enter_101 rfl rfl ?_
      obtain ⟨ho19, H⟩ := H
      obtain ⟨hi, H⟩ := H
      refine xt_iald dX9_enter_102 ho19.1 ho19.2 hi ?_
      refine xt_aload_n (j := 1) dX9_enter_103 rfl rfl ?_
      obtain ⟨b20, hb, H⟩ := H
      refine xt_getR dX9_enter_104 (flX9_18 rfl) ft_11_3 ho1.1 ho1.2 hb ?_
      refine xt_iload_n (j := 2) dX9_enter_107 rfl rfl ?_
      obtain ⟨ho21, H⟩ := H
      obtain ⟨hi, H⟩ := H
      refine xt_iald dX9_enter_108 ho21.1 ho21.2 hi ?_
      refine xt_aload_n (j := 1) dX9_enter_109 rfl rfl ?_
      obtain ⟨b22, hb, H⟩ := H
      refine xt_getR dX9_enter_110 (flX9_21 rfl) ft_11_4 ho1.1 ho1.2 hb ?_
      refine xt_iload_n (j := 2) dX9_enter_113 rfl rfl ?_
      obtain ⟨ho23, H⟩ := H
      obtain ⟨hi, H⟩ := H
      refine xt_iald dX9_enter_114 ho23.1 ho23.2 hi ?_
      obtain ⟨ho24, H⟩ := H
      refine xt_callV (h2 := h) (as := [.int (mAI M3 b6 (x1 : Int32).toNatClampNeg), .int (mAI M3 b18 (x1 : Int32).toNatClampNeg), .int (mAI M3 b20 (x1 : Int32).toNatClampNeg), .int (mAI M3 b22 (x1 : Int32).toNatClampNeg)]) (st := []) dX9_enter_115 (mlX9_174 rfl) rfl ho24.1 ⟨by rw [ho24.2]; rfl, by rw [ho24.2]; decide⟩ (by first | decide | (simp [Value.category]; done)) (Nat.le_refl _) H (fun r M25 HH hE => ?_)
      obtain ⟨hr, H⟩ := HH hE
      subst hr
      have ho1 := ok_E ho1 hE
      show T _ _ _ _ [] _ _
      refine xt_aload_n (j := 1) dX9_enter_118 rfl rfl ?_
      obtain ⟨b26, hb, H⟩ := H
      refine xt_getR dX9_enter_119 (flX9_30 rfl) ft_11_7 ho1.1 ho1.2 hb ?_
      refine xt_iload_n (j := 2) dX9_enter_122 rfl rfl ?_
      refine xt_bipush (v := 20) dX9_enter_123 (by decide) ?_
      refine xt_imul dX9_enter_125 ?_
      refine xt_aload_n (j := 1) dX9_enter_126 rfl rfl ?_
      refine xt_iload_n (j := 2) dX9_enter_127 rfl rfl ?_
      refine xt_callV (h2 := h) (as := [.int x1]) (st := [.int (x1 * 20), .ref b26]) dX9_enter_128 (mlX9_156 rfl) rfl ho1.1 ⟨by rw [ho1.2]; rfl, by rw [ho1.2]; decide⟩ (by first | decide | (simp [Value.category]; done)) (Nat.le_refl _) H (fun r M27 HH hE => ?_)
      obtain ⟨r28, hr, H⟩ := HH hE
      subst hr
      have ho1 := ok_E ho1 hE
      show T _ _ _ _ [.int r28, .int (x1 * 20), .ref b26] _ _
      obtain ⟨ho29, H⟩ := H
      obtain ⟨hi, H⟩ := H
      obtain ⟨M30, eM30⟩ : ∃ z, z = wAI M27 b26 (x1 * 20 : Int32).toNatClampNeg r28 := ⟨_, rfl⟩
      have H := H _ eM30
      refine xt_iast dX9_enter_131 ho29.1 ho29.2 hi ?_
      have ho1 : ok M30 x0 11 := by rw [eM30]; exact ho1
      rw [← eM30]
      refine xt_aload_n (j := 1) dX9_enter_132 rfl rfl ?_
      obtain ⟨b31, hb, H⟩ := H
      refine xt_getR dX9_enter_133 (flX9_30 rfl) ft_11_7 ho1.1 ho1.2 hb ?_
      refine xt_iload_n (j := 2) dX9_enter_136 rfl rfl ?_
      refine xt_bipush (v := 20) dX9_enter_137 (by decide) ?_
      refine xt_imul dX9_enter_139 ?_
      refine xt_iconst (v := 1) dX9_enter_140 (by decide) ?_
      refine xt_iadd dX9_enter_141 ?_
      refine xt_aload_n (j := 1) dX9_enter_142 rfl rfl ?_
      obtain ⟨b32, hb, H⟩ := H
      refine xt_getR dX9_enter_143 (flX9_9 rfl) ft_11_1 ho1.1 ho1.2 hb ?_
      refine xt_iload_n (j := 2) dX9_enter_146 rfl rfl ?_
      obtain ⟨ho33, H⟩ := H
      obtain ⟨hi, H⟩ := H
      refine xt_iald dX9_enter_147 ho33.1 ho33.2 hi ?_
      obtain ⟨ho34, H⟩ := H
      obtain ⟨hi, H⟩ := H
      obtain ⟨M35, eM35⟩ : ∃ z, z = wAI M30 b31 ((x1 * 20) + 1 : Int32).toNatClampNeg (mAI M30 b32 (x1 : Int32).toNatClampNeg) := ⟨_, rfl⟩
      have H := H _ eM35
      refine xt_iast dX9_enter_148 ho34.1 ho34.2 hi ?_
      have ho1 : ok M35 x0 11 := by rw [eM35]; exact ho1
      rw [← eM35]
      refine xt_goto (tgt := 255) dX9_enter_149 (by decide) ?_
      exact xt_sub [] rfl (VX9_enter_255 H)
    · have hx : (mAI M3 b10 (x1 : Int32).toNatClampNeg) = 2 := i32_ofInt hv
      have H := H.2.2.1 hx
      refine xt_tableIn (tgt := 152) dX9_enter_38 (by omega) (by omega) (by rw [hv]; rfl) (by decide) ?_
      refine xt_aload_n (j := 1) dX9_enter_152 rfl rfl ?_
      obtain ⟨b36, hb, H⟩ := H
      refine xt_getR dX9_enter_153 (flX9_80 rfl) ft_11_8 ho1.1 ho1.2 hb ?_
      obtain ⟨ho37, H⟩ := H
      obtain ⟨b38, hb, H⟩ := H
      refine xt_getR dX9_enter_156 (flX9_103 rfl) ft_2_14 ho37.1 ho37.2 hb ?_
      refine xt_iload_n (j := 0) dX9_enter_159 rfl rfl ?_
      refine xt_aload_n (j := 1) dX9_enter_160 rfl rfl ?_
      obtain ⟨b39, hb, H⟩ := H
      refine xt_getR dX9_enter_161 (flX9_80 rfl) ft_11_8 ho1.1 ho1.2 hb ?_
      refine xt_aload_n (j := 1) dX9_enter_164 rfl rfl ?_
      obtain ⟨b40, hb, H⟩ := H
      refine xt_getR dX9_enter_165 (flX9_80 rfl) ft_11_8 ho1.1 ho1.2 hb ?_
      obtain ⟨ho41, H⟩ := H
      obtain ⟨b42, hb, H⟩ := H
      refine xt_getR dX9_enter_168 (flX9_103 rfl) ft_2_14 ho41.1 ho41.2 hb ?_
      refine xt_iload_n (j := 0) dX9_enter_171 rfl rfl ?_
      obtain ⟨ho43, H⟩ := H
      obtain ⟨hi, H⟩ := H
      refine xt_iald dX9_enter_172 ho43.1 ho43.2 hi ?_
      refine xt_aload_n (j := 1) dX9_enter_173 rfl rfl ?_
      obtain ⟨b44, hb, H⟩ := H
      refine xt_getR dX9_enter_174 (flX9_9 rfl) ft_11_1 ho1.1 ho1.2 hb ?_
      refine xt_iload_n (j := 2) dX9_enter_177 rfl rfl ?_
      obtain ⟨ho45, H⟩ := H
      obtain ⟨hi, H⟩ := H
      refine xt_iald dX9_enter_178 ho45.1 ho45.2 hi ?_
      obtain ⟨ho46, H⟩ := H
      refine xt_callV (h2 := h) (as := [.int (mAI M3 b42 (mAI M3 b6 (x1 : Int32).toNatClampNeg : Int32).toNatClampNeg), .int (mAI M3 b44 (x1 : Int32).toNatClampNeg)]) (st := [.int (mAI M3 b6 (x1 : Int32).toNatClampNeg), .ref b38]) dX9_enter_179 (mlX9_159 rfl) rfl ho46.1 ⟨by rw [ho46.2]; rfl, by rw [ho46.2]; decide⟩ (by first | decide | (simp [Value.category]; done)) (Nat.le_refl _) H (fun r M47 HH hE => ?_)
      obtain ⟨r48, hr, H⟩ := HH hE
      subst hr
      have ho1 := ok_E ho1 hE
      show T _ _ _ _ [.int r48, .int (mAI M3 b6 (x1 : Int32).toNatClampNeg), .ref b38] _ _
      obtain ⟨ho49, H⟩ := H
      obtain ⟨hi, H⟩ := H
      obtain ⟨M50, eM50⟩ : ∃ z, z = wAI M47 b38 (mAI M3 b6 (x1 : Int32).toNatClampNeg : Int32).toNatClampNeg r48 := ⟨_, rfl⟩
      have H := H _ eM50
      refine xt_iast dX9_enter_182 ho49.1 ho49.2 hi ?_
      have ho1 : ok M50 x0 11 := by rw [eM50]; exact ho1
      rw [← eM50]
      refine xt_aload_n (j := 1) dX9_enter_183 rfl rfl ?_
      obtain ⟨b51, hb, H⟩ := H
      refine xt_getR dX9_enter_184 (flX9_30 rfl) ft_11_7 ho1.1 ho1.2 hb ?_
      refine xt_iload_n (j := 2) dX9_enter_187 rfl rfl ?_
      refine xt_bipush (v := 20) dX9_enter_188 (by decide) ?_
      refine xt_imul dX9_enter_190 ?_
      refine xt_aload_n (j := 1) dX9_enter_191 rfl rfl ?_
      obtain ⟨b52, hb, H⟩ := H
      refine xt_getR dX9_enter_192 (flX9_9 rfl) ft_11_1 ho1.1 ho1.2 hb ?_
      refine xt_iload_n (j := 2) dX9_enter_195 rfl rfl ?_
      obtain ⟨ho53, H⟩ := H
      obtain ⟨hi, H⟩ := H
      refine xt_iald dX9_enter_196 ho53.1 ho53.2 hi ?_
      obtain ⟨ho54, H⟩ := H
      obtain ⟨hi, H⟩ := H
      obtain ⟨M55, eM55⟩ : ∃ z, z = wAI M50 b51 (x1 * 20 : Int32).toNatClampNeg (mAI M50 b52 (x1 : Int32).toNatClampNeg) := ⟨_, rfl⟩
      have H := H _ eM55
      refine xt_iast dX9_enter_197 ho54.1 ho54.2 hi ?_
      have ho1 : ok M55 x0 11 := by rw [eM55]; exact ho1
      rw [← eM55]
      refine xt_goto (tgt := 255) dX9_enter_198 (by decide) ?_
      exact xt_sub [] rfl (VX9_enter_255 H)
    · have hx : (mAI M3 b10 (x1 : Int32).toNatClampNeg) = 3 := i32_ofInt hv
      have H := H.2.2.2.1 hx
      refine xt_tableIn (tgt := 201) dX9_enter_38 (by omega) (by omega) (by rw [hv]; rfl) (by decide) ?_
      refine xt_aload_n (j := 1) dX9_enter_201 rfl rfl ?_
      obtain ⟨b56, hb, H⟩ := H
      refine xt_getR dX9_enter_202 (flX9_30 rfl) ft_11_7 ho1.1 ho1.2 hb ?_
      refine xt_iload_n (j := 2) dX9_enter_205 rfl rfl ?_
      refine xt_bipush (v := 20) dX9_enter_206 (by decide) ?_
      refine xt_imul dX9_enter_208 ?_
      refine xt_iload_n (j := 0) dX9_enter_209 rfl rfl ?_
      refine xt_iadd dX9_enter_210 ?_
      refine xt_aload_n (j := 1) dX9_enter_211 rfl rfl ?_
      obtain ⟨b57, hb, H⟩ := H
      refine xt_getR dX9_enter_212 (flX9_9 rfl) ft_11_1 ho1.1 ho1.2 hb ?_
      refine xt_iload_n (j := 2) dX9_enter_215 rfl rfl ?_
      obtain ⟨ho58, H⟩ := H
      obtain ⟨hi, H⟩ := H
      refine xt_iald dX9_enter_216 ho58.1 ho58.2 hi ?_
      obtain ⟨ho59, H⟩ := H
      obtain ⟨hi, H⟩ := H
      obtain ⟨M60, eM60⟩ : ∃ z, z = wAI M3 b56 ((x1 * 20) + (mAI M3 b6 (x1 : Int32).toNatClampNeg) : Int32).toNatClampNeg (mAI M3 b57 (x1 : Int32).toNatClampNeg) := ⟨_, rfl⟩
      have H := H _ eM60
      refine xt_iast dX9_enter_217 ho59.1 ho59.2 hi ?_
      have ho1 : ok M60 x0 11 := by rw [eM60]; exact ho1
      rw [← eM60]
      refine xt_goto (tgt := 255) dX9_enter_218 (by decide) ?_
      exact xt_sub [] rfl (VX9_enter_255 H)
    · have hx : (mAI M3 b10 (x1 : Int32).toNatClampNeg) = 4 := i32_ofInt hv
      have H := H.2.2.2.2.1 hx
      refine xt_tableIn (tgt := 255) dX9_enter_38 (by omega) (by omega) (by rw [hv]; rfl) (by decide) ?_
      exact xt_sub [] rfl (VX9_enter_255 H)
    · have hx : (mAI M3 b10 (x1 : Int32).toNatClampNeg) = 5 := i32_ofInt hv
      have H := H.2.2.2.2.2.1 hx
      refine xt_tableIn (tgt := 221) dX9_enter_38 (by omega) (by omega) (by rw [hv]; rfl) (by decide) ?_
      refine xt_aload_n (j := 1) dX9_enter_221 rfl rfl ?_
      obtain ⟨b61, hb, H⟩ := H
      refine xt_getR dX9_enter_222 (flX9_30 rfl) ft_11_7 ho1.1 ho1.2 hb ?_
      refine xt_iload_n (j := 2) dX9_enter_225 rfl rfl ?_
      refine xt_bipush (v := 20) dX9_enter_226 (by decide) ?_
      refine xt_imul dX9_enter_228 ?_
      refine xt_aload_n (j := 1) dX9_enter_229 rfl rfl ?_
      obtain ⟨b62, hb, H⟩ := H
      refine xt_getR dX9_enter_230 (flX9_9 rfl) ft_11_1 ho1.1 ho1.2 hb ?_
      refine xt_iload_n (j := 2) dX9_enter_233 rfl rfl ?_
      obtain ⟨ho63, H⟩ := H
      obtain ⟨hi, H⟩ := H
      refine xt_iald dX9_enter_234 ho63.1 ho63.2 hi ?_
      obtain ⟨ho64, H⟩ := H
      obtain ⟨hi, H⟩ := H
      obtain ⟨M65, eM65⟩ : ∃ z, z = wAI M3 b61 (x1 * 20 : Int32).toNatClampNeg (mAI M3 b62 (x1 : Int32).toNatClampNeg) := ⟨_, rfl⟩
      have H := H _ eM65
      refine xt_iast dX9_enter_235 ho64.1 ho64.2 hi ?_
      have ho1 : ok M65 x0 11 := by rw [eM65]; exact ho1
      rw [← eM65]
      refine xt_goto (tgt := 255) dX9_enter_236 (by decide) ?_
      exact xt_sub [] rfl (VX9_enter_255 H)
    · have hx : (mAI M3 b10 (x1 : Int32).toNatClampNeg) = 6 := i32_ofInt hv
      have H := H.2.2.2.2.2.2.1 hx
      refine xt_tableIn (tgt := 239) dX9_enter_38 (by omega) (by omega) (by rw [hv]; rfl) (by decide) ?_
      refine xt_aload_n (j := 1) dX9_enter_239 rfl rfl ?_
      obtain ⟨b66, hb, H⟩ := H
      refine xt_getR dX9_enter_240 (flX9_24 rfl) ft_11_5 ho1.1 ho1.2 hb ?_
      refine xt_iload_n (j := 2) dX9_enter_243 rfl rfl ?_
      refine xt_aload_n (j := 1) dX9_enter_244 rfl rfl ?_
      obtain ⟨b67, hb, H⟩ := H
      refine xt_getR dX9_enter_245 (flX9_80 rfl) ft_11_8 ho1.1 ho1.2 hb ?_
      obtain ⟨ho68, H⟩ := H
      refine xt_callV (h2 := h) (as := []) (st := [.int x1, .ref b66]) dX9_enter_248 (mlX9_178 rfl) rfl ho68.1 ⟨by rw [ho68.2]; rfl, by rw [ho68.2]; decide⟩ (by first | decide | (simp [Value.category]; done)) (Nat.le_refl _) H (fun r M69 HH hE => ?_)
      obtain ⟨r70, hr, H⟩ := HH hE
      subst hr
      have ho1 := ok_E ho1 hE
      show T _ _ _ _ [.int r70, .int x1, .ref b66] _ _
      obtain ⟨ho71, H⟩ := H
      obtain ⟨hi, H⟩ := H
      obtain ⟨M72, eM72⟩ : ∃ z, z = wAI M69 b66 (x1 : Int32).toNatClampNeg r70 := ⟨_, rfl⟩
      have H := H _ eM72
      refine xt_iast dX9_enter_251 ho71.1 ho71.2 hi ?_
      have ho1 : ok M72 x0 11 := by rw [eM72]; exact ho1
      rw [← eM72]
      refine xt_goto (tgt := 255) dX9_enter_252 (by decide) ?_
      exact xt_sub [] rfl (VX9_enter_255 H)
    · have hx : (mAI M3 b10 (x1 : Int32).toNatClampNeg) = 7 := i32_ofInt hv
      have H := H.2.2.2.2.2.2.2.1 hx
      refine xt_tableIn (tgt := 255) dX9_enter_38 (by omega) (by omega) (by rw [hv]; rfl) (by decide) ?_
      exact xt_sub [] rfl (VX9_enter_255 H)
    · have hx : (mAI M3 b10 (x1 : Int32).toNatClampNeg) = 8 := i32_ofInt hv
      have H := H.2.2.2.2.2.2.2.2.1 hx
      refine xt_tableIn (tgt := 255) dX9_enter_38 (by omega) (by omega) (by rw [hv]; rfl) (by decide) ?_
      exact xt_sub [] rfl (VX9_enter_255 H)
    · have hx : (mAI M3 b10 (x1 : Int32).toNatClampNeg) = 9 := i32_ofInt hv
      have H := H.2.2.2.2.2.2.2.2.2.1 hx
      refine xt_tableIn (tgt := 239) dX9_enter_38 (by omega) (by omega) (by rw [hv]; rfl) (by decide) ?_
      refine xt_aload_n (j := 1) dX9_enter_239 rfl rfl ?_
      obtain ⟨b73, hb, H⟩ := H
      refine xt_getR dX9_enter_240 (flX9_24 rfl) ft_11_5 ho1.1 ho1.2 hb ?_
      refine xt_iload_n (j := 2) dX9_enter_243 rfl rfl ?_
      refine xt_aload_n (j := 1) dX9_enter_244 rfl rfl ?_
      obtain ⟨b74, hb, H⟩ := H
      refine xt_getR dX9_enter_245 (flX9_80 rfl) ft_11_8 ho1.1 ho1.2 hb ?_
      obtain ⟨ho75, H⟩ := H
      refine xt_callV (h2 := h) (as := []) (st := [.int x1, .ref b73]) dX9_enter_248 (mlX9_178 rfl) rfl ho75.1 ⟨by rw [ho75.2]; rfl, by rw [ho75.2]; decide⟩ (by first | decide | (simp [Value.category]; done)) (Nat.le_refl _) H (fun r M76 HH hE => ?_)
      obtain ⟨r77, hr, H⟩ := HH hE
      subst hr
      have ho1 := ok_E ho1 hE
      show T _ _ _ _ [.int r77, .int x1, .ref b73] _ _
      obtain ⟨ho78, H⟩ := H
      obtain ⟨hi, H⟩ := H
      obtain ⟨M79, eM79⟩ : ∃ z, z = wAI M76 b73 (x1 : Int32).toNatClampNeg r77 := ⟨_, rfl⟩
      have H := H _ eM79
      refine xt_iast dX9_enter_251 ho78.1 ho78.2 hi ?_
      have ho1 : ok M79 x0 11 := by rw [eM79]; exact ho1
      rw [← eM79]
      refine xt_goto (tgt := 255) dX9_enter_252 (by decide) ?_
      exact xt_sub [] rfl (VX9_enter_255 H)
theorem KX9_enter {h : Nat} {x0 : Nat} {x1 : Int32} {M : Mem} {Q : Option Value → Mem → Prop} (H : DX9_enter_0 h x0 x1 M Q) : E (h + 1) mdX9_enter [.ref x0, .int x1] M Q := E.of (by decide) (Nat.le_of_ble_eq_true rfl) (fun _ _ _ => trivial) (VX9_enter_0 H)
def DX9_leave_215 (h : Nat) (M : Mem) (Q : Option Value → Mem → Prop) : Prop :=
  Q none M
set_option maxRecDepth 20000 in
set_option maxHeartbeats 2000000 in
theorem VX9_leave_215 {h : Nat} {M : Mem} {Q : Option Value → Mem → Prop} (H : DX9_leave_215 h  M Q) : T (h + 1) mdX9_leave 215 [] [] M Q := by
  unfold DX9_leave_215 at H
  exact xt_return dX9_leave_215 rfl H
def DX9_leave_0 (h : Nat) (x0 : Nat) (x1 : Int32) (M : Mem) (Q : Option Value → Mem → Prop) : Prop :=
  ok M x0 11 ∧ ∃ b2 : Nat, mR M x0 0 = some b2 ∧ ok M b2 10 ∧ ∃ b4 : Nat, mR M b2 4 = some b4 ∧ ok M b4 21 ∧ vp_in x1 (mL M b4) ∧ ∃ b6 : Nat, mR M x0 0 = some b6 ∧ ok M b6 10 ∧ ∃ b8 : Nat, mR M b6 0 = some b8 ∧ ok M b8 21 ∧ vp_in (mAI M b4 (x1 : Int32).toNatClampNeg) (mL M b8) ∧ ((mAI M b8 (mAI M b4 (x1 : Int32).toNatClampNeg : Int32).toNatClampNeg) = 4 → E h mdX9_orAll [.ref x0, .int ((mAI M b4 (x1 : Int32).toNatClampNeg) * 20), .int (x1 * 20)] M (fun r M10 => mE M M10 → r = none ∧ DX9_leave_215 h  M10 Q)) ∧
  ((mAI M b8 (mAI M b4 (x1 : Int32).toNatClampNeg : Int32).toNatClampNeg) = 5 → ∃ b11 : Nat, mR M x0 7 = some b11 ∧ ok M b11 21 ∧ vp_in ((mAI M b4 (x1 : Int32).toNatClampNeg) * 20) (mL M b11) ∧ ∀ M13 : Mem, M13 = wAI M b11 ((mAI M b4 (x1 : Int32).toNatClampNeg) * 20 : Int32).toNatClampNeg 0 →
  E h mdX9_orAll [.ref x0, .int ((mAI M b4 (x1 : Int32).toNatClampNeg) * 20), .int (x1 * 20)] M13 (fun r M14 => mE M13 M14 → r = none ∧ DX9_leave_215 h  M14 Q)) ∧
  ((mAI M b8 (mAI M b4 (x1 : Int32).toNatClampNeg : Int32).toNatClampNeg) = 6 → ∃ b15 : Nat, mR M x0 8 = some b15 ∧ ∃ b16 : Nat, mR M x0 5 = some b16 ∧ ok M b16 21 ∧ vp_in (mAI M b4 (x1 : Int32).toNatClampNeg) (mL M b16) ∧ ∃ b18 : Nat, mR M x0 8 = some b18 ∧ ∃ b19 : Nat, mR M x0 1 = some b19 ∧ ok M b19 21 ∧ vp_in (mAI M b4 (x1 : Int32).toNatClampNeg) (mL M b19) ∧ ∃ b21 : Nat, mR M x0 7 = some b21 ∧ ok M b21 21 ∧ vp_in (x1 * 20) (mL M b21) ∧ ok M b18 2 ∧ E h mdX0_or [.ref b18, .int (mAI M b19 (mAI M b4 (x1 : Int32).toNatClampNeg : Int32).toNatClampNeg), .int (mAI M b21 (x1 * 20 : Int32).toNatClampNeg)] M (fun r M24 => mE M M24 → ∃ r25 : Int32, r = some (.int r25) ∧ ok M24 b15 2 ∧ E h mdX0_close [.ref b15, .int (mAI M b16 (mAI M b4 (x1 : Int32).toNatClampNeg : Int32).toNatClampNeg), .int r25] M24 (fun r M27 => mE M24 M27 → r = none ∧ E h mdX9_orAll [.ref x0, .int ((mAI M b4 (x1 : Int32).toNatClampNeg) * 20), .int (x1 * 20)] M27 (fun r M28 => mE M27 M28 → r = none ∧ ∃ b29 : Nat, mR M28 x0 7 = some b29 ∧ ok M28 b29 21 ∧ vp_in ((mAI M b4 (x1 : Int32).toNatClampNeg) * 20) (mL M28 b29) ∧ ∀ M31 : Mem, M31 = wAI M28 b29 ((mAI M b4 (x1 : Int32).toNatClampNeg) * 20 : Int32).toNatClampNeg 0 →
  DX9_leave_215 h  M31 Q)))) ∧
  ((mAI M b8 (mAI M b4 (x1 : Int32).toNatClampNeg : Int32).toNatClampNeg) = 7 → E h mdX9_orAll [.ref x0, .int ((mAI M b4 (x1 : Int32).toNatClampNeg) * 20), .int (x1 * 20)] M (fun r M32 => mE M M32 → r = none ∧ ∃ b33 : Nat, mR M32 x0 8 = some b33 ∧ E h mdX9_resumed [.ref x0, .int (mAI M b4 (x1 : Int32).toNatClampNeg)] M32 (fun r M34 => mE M32 M34 → ∃ r35 : Int32, r = some (.int r35) ∧ ∃ b36 : Nat, mR M34 x0 0 = some b36 ∧ ok M34 b36 10 ∧ ∃ b38 : Nat, mR M34 b36 5 = some b38 ∧ ok M34 b38 21 ∧ vp_in (mAI M b4 (x1 : Int32).toNatClampNeg) (mL M34 b38) ∧ ok M34 b33 2 ∧ E h mdX0_and [.ref b33, .int r35, .int (mAI M34 b38 (mAI M b4 (x1 : Int32).toNatClampNeg : Int32).toNatClampNeg)] M34 (fun r M41 => mE M34 M41 → ∃ r42 : Int32, r = some (.int r42) ∧ ∃ b43 : Nat, mR M41 x0 7 = some b43 ∧ ∃ b44 : Nat, mR M41 x0 8 = some b44 ∧ ∃ b45 : Nat, mR M41 x0 7 = some b45 ∧ ok M41 b45 21 ∧ vp_in (((mAI M b4 (x1 : Int32).toNatClampNeg) * 20) + 1) (mL M41 b45) ∧ ok M41 b44 2 ∧ E h mdX0_or [.ref b44, .int (mAI M41 b45 (((mAI M b4 (x1 : Int32).toNatClampNeg) * 20) + 1 : Int32).toNatClampNeg), .int r42] M41 (fun r M48 => mE M41 M48 → ∃ r49 : Int32, r = some (.int r49) ∧ ok M48 b43 21 ∧ vp_in (((mAI M b4 (x1 : Int32).toNatClampNeg) * 20) + 1) (mL M48 b43) ∧ ∀ M51 : Mem, M51 = wAI M48 b43 (((mAI M b4 (x1 : Int32).toNatClampNeg) * 20) + 1 : Int32).toNatClampNeg r49 →
  DX9_leave_215 h  M51 Q))))) ∧
  ((mAI M b8 (mAI M b4 (x1 : Int32).toNatClampNeg : Int32).toNatClampNeg) = 8 → DX9_leave_215 h  M Q) ∧
  ((mAI M b8 (mAI M b4 (x1 : Int32).toNatClampNeg : Int32).toNatClampNeg) = 9 → E h mdX9_leaveTrap [.ref x0, .int (mAI M b4 (x1 : Int32).toNatClampNeg), .int (x1 * 20)] M (fun r M52 => mE M M52 → r = none ∧ DX9_leave_215 h  M52 Q)) ∧
  (((mAI M b8 (mAI M b4 (x1 : Int32).toNatClampNeg : Int32).toNatClampNeg : Int32).toInt < 4 ∨ 9 < (mAI M b8 (mAI M b4 (x1 : Int32).toNatClampNeg : Int32).toNatClampNeg : Int32).toInt) → DX9_leave_215 h  M Q)
set_option maxRecDepth 20000 in
set_option maxHeartbeats 2000000 in
theorem VX9_leave_0 {h : Nat} {x0 : Nat} {x1 : Int32} {M : Mem} {Q : Option Value → Mem → Prop} (H : DX9_leave_0 h x0 x1 M Q) : T (h + 1) mdX9_leave 0 [(0, .ref x0), (1, .int x1)] [] M Q := by
  unfold DX9_leave_0 at H
  refine xt_aload_n (j := 0) dX9_leave_0 rfl rfl ?_
  obtain ⟨ho1, H⟩ := H
  obtain ⟨b2, hb, H⟩ := H
  refine xt_getR dX9_leave_1 (flX9_33 rfl) ft_11_0 ho1.1 ho1.2 hb ?_
  obtain ⟨ho3, H⟩ := H
  obtain ⟨b4, hb, H⟩ := H
  refine xt_getR dX9_leave_4 (flX9_70 rfl) ft_10_4 ho3.1 ho3.2 hb ?_
  refine xt_iload_n (j := 1) dX9_leave_7 rfl rfl ?_
  obtain ⟨ho5, H⟩ := H
  obtain ⟨hi, H⟩ := H
  refine xt_iald dX9_leave_8 ho5.1 ho5.2 hi ?_
  refine xt_istore_n (lv' := [(2, .int (mAI M b4 (x1 : Int32).toNatClampNeg)), (0, .ref x0), (1, .int x1)]) dX9_leave_9 rfl (by decide) rfl ?_
  refine xt_iload_n (j := 2) dX9_leave_10 rfl rfl ?_
  refine xt_bipush (v := 20) dX9_leave_11 (by decide) ?_
  refine xt_imul dX9_leave_13 ?_
  refine xt_istore_n (lv' := [(3, .int (x1 * 20)), (2, .int (mAI M b4 (x1 : Int32).toNatClampNeg)), (0, .ref x0), (1, .int x1)]) dX9_leave_14 rfl (by decide) rfl ?_
  refine xt_iload_n (j := 1) dX9_leave_15 rfl rfl ?_
  refine xt_bipush (v := 20) dX9_leave_16 (by decide) ?_
  refine xt_imul dX9_leave_18 ?_
  refine xt_istore (lv' := [(4, .int ((mAI M b4 (x1 : Int32).toNatClampNeg) * 20)), (3, .int (x1 * 20)), (2, .int (mAI M b4 (x1 : Int32).toNatClampNeg)), (0, .ref x0), (1, .int x1)]) dX9_leave_19 (by decide) rfl ?_
  refine xt_aload_n (j := 3) dX9_leave_21 rfl rfl ?_
  obtain ⟨b6, hb, H⟩ := H
  refine xt_getR dX9_leave_22 (flX9_33 rfl) ft_11_0 ho1.1 ho1.2 hb ?_
  obtain ⟨ho7, H⟩ := H
  obtain ⟨b8, hb, H⟩ := H
  refine xt_getR dX9_leave_25 (flX9_58 rfl) ft_10_0 ho7.1 ho7.2 hb ?_
  refine xt_iload_n (j := 2) dX9_leave_28 rfl rfl ?_
  obtain ⟨ho9, H⟩ := H
  obtain ⟨hi, H⟩ := H
  refine xt_iald dX9_leave_29 ho9.1 ho9.2 hi ?_
  by_cases hsw : (mAI M b8 (mAI M b4 (x1 : Int32).toNatClampNeg : Int32).toNatClampNeg : Int32).toInt < 4 ∨ 9 < (mAI M b8 (mAI M b4 (x1 : Int32).toNatClampNeg : Int32).toNatClampNeg : Int32).toInt
  · refine xt_tableOut (tgt := 215) dX9_leave_30 hsw (by decide) ?_
    have H := H.2.2.2.2.2.2 hsw
    exact xt_sub [] rfl (VX9_leave_215 H)
  · have hsw2 : (mAI M b8 (mAI M b4 (x1 : Int32).toNatClampNeg : Int32).toNatClampNeg : Int32).toInt = 4 ∨ (mAI M b8 (mAI M b4 (x1 : Int32).toNatClampNeg : Int32).toNatClampNeg : Int32).toInt = 5 ∨ (mAI M b8 (mAI M b4 (x1 : Int32).toNatClampNeg : Int32).toNatClampNeg : Int32).toInt = 6 ∨ (mAI M b8 (mAI M b4 (x1 : Int32).toNatClampNeg : Int32).toNatClampNeg : Int32).toInt = 7 ∨ (mAI M b8 (mAI M b4 (x1 : Int32).toNatClampNeg : Int32).toNatClampNeg : Int32).toInt = 8 ∨ (mAI M b8 (mAI M b4 (x1 : Int32).toNatClampNeg : Int32).toNatClampNeg : Int32).toInt = 9 := by omega
    rcases hsw2 with hv | hv | hv | hv | hv | hv
    · have hx : (mAI M b8 (mAI M b4 (x1 : Int32).toNatClampNeg : Int32).toNatClampNeg) = 4 := i32_ofInt hv
      have H := H.1 hx
      refine xt_tableIn (tgt := 86) dX9_leave_30 (by omega) (by omega) (by rw [hv]; rfl) (by decide) ?_
      refine xt_aload_n (j := 3) dX9_leave_86 rfl rfl ?_
      refine xt_iload (j := 0) dX9_leave_87 rfl ?_
      refine xt_iload_n (j := 1) dX9_leave_89 rfl rfl ?_
      refine xt_callV (h2 := h) (as := [.int ((mAI M b4 (x1 : Int32).toNatClampNeg) * 20), .int (x1 * 20)]) (st := []) dX9_leave_90 (mlX9_181 rfl) rfl ho1.1 ⟨by rw [ho1.2]; rfl, by rw [ho1.2]; decide⟩ (by first | decide | (simp [Value.category]; done)) (Nat.le_refl _) H (fun r M10 HH hE => ?_)
      obtain ⟨hr, H⟩ := HH hE
      subst hr
      have ho1 := ok_E ho1 hE
      show T _ _ _ _ [] _ _
      refine xt_goto (tgt := 215) dX9_leave_93 (by decide) ?_
      exact xt_sub [] rfl (VX9_leave_215 H)
    · have hx : (mAI M b8 (mAI M b4 (x1 : Int32).toNatClampNeg : Int32).toNatClampNeg) = 5 := i32_ofInt hv
      have H := H.2.1 hx
      refine xt_tableIn (tgt := 68) dX9_leave_30 (by omega) (by omega) (by rw [hv]; rfl) (by decide) ?_
      refine xt_aload_n (j := 3) dX9_leave_68 rfl rfl ?_
      obtain ⟨b11, hb, H⟩ := H
      refine xt_getR dX9_leave_69 (flX9_30 rfl) ft_11_7 ho1.1 ho1.2 hb ?_
      refine xt_iload (j := 0) dX9_leave_72 rfl ?_
      refine xt_iconst (v := 0) dX9_leave_74 (by decide) ?_
      obtain ⟨ho12, H⟩ := H
      obtain ⟨hi, H⟩ := H
      obtain ⟨M13, eM13⟩ : ∃ z, z = wAI M b11 ((mAI M b4 (x1 : Int32).toNatClampNeg) * 20 : Int32).toNatClampNeg 0 := ⟨_, rfl⟩
      have H := H _ eM13
      refine xt_iast dX9_leave_75 ho12.1 ho12.2 hi ?_
      have ho1 : ok M13 x0 11 := by rw [eM13]; exact ho1
      rw [← eM13]
      refine xt_aload_n (j := 3) dX9_leave_76 rfl rfl ?_
      refine xt_iload (j := 0) dX9_leave_77 rfl ?_
      refine xt_iload_n (j := 1) dX9_leave_79 rfl rfl ?_
      refine xt_callV (h2 := h) (as := [.int ((mAI M b4 (x1 : Int32).toNatClampNeg) * 20), .int (x1 * 20)]) (st := []) dX9_leave_80 (mlX9_181 rfl) rfl ho1.1 ⟨by rw [ho1.2]; rfl, by rw [ho1.2]; decide⟩ (by first | decide | (simp [Value.category]; done)) (Nat.le_refl _) H (fun r M14 HH hE => ?_)
      obtain ⟨hr, H⟩ := HH hE
      subst hr
      have ho1 := ok_E ho1 hE
      show T _ _ _ _ [] _ _
      refine xt_goto (tgt := 215) dX9_leave_83 (by decide) ?_
      exact xt_sub [] rfl (VX9_leave_215 H)
    · have hx : (mAI M b8 (mAI M b4 (x1 : Int32).toNatClampNeg : Int32).toNatClampNeg) = 6 := i32_ofInt hv
      have H := H.2.2.1 hx
      refine xt_tableIn (tgt := 96) dX9_leave_30 (by omega) (by omega) (by rw [hv]; rfl) (by decide) ?_
      refine xt_aload_n (j := 3) dX9_leave_96 rfl rfl ?_
      obtain ⟨b15, hb, H⟩ := H
      refine xt_getR dX9_leave_97 (flX9_80 rfl) ft_11_8 ho1.1 ho1.2 hb ?_
      refine xt_aload_n (j := 3) dX9_leave_100 rfl rfl ?_
      obtain ⟨b16, hb, H⟩ := H
      refine xt_getR dX9_leave_101 (flX9_24 rfl) ft_11_5 ho1.1 ho1.2 hb ?_
      refine xt_iload_n (j := 2) dX9_leave_104 rfl rfl ?_
      obtain ⟨ho17, H⟩ := H
      obtain ⟨hi, H⟩ := H
      refine xt_iald dX9_leave_105 ho17.1 ho17.2 hi ?_
      refine xt_aload_n (j := 3) dX9_leave_106 rfl rfl ?_
      obtain ⟨b18, hb, H⟩ := H
      refine xt_getR dX9_leave_107 (flX9_80 rfl) ft_11_8 ho1.1 ho1.2 hb ?_
      refine xt_aload_n (j := 3) dX9_leave_110 rfl rfl ?_
      obtain ⟨b19, hb, H⟩ := H
      refine xt_getR dX9_leave_111 (flX9_9 rfl) ft_11_1 ho1.1 ho1.2 hb ?_
      refine xt_iload_n (j := 2) dX9_leave_114 rfl rfl ?_
      obtain ⟨ho20, H⟩ := H
      obtain ⟨hi, H⟩ := H
      refine xt_iald dX9_leave_115 ho20.1 ho20.2 hi ?_
      refine xt_aload_n (j := 3) dX9_leave_116 rfl rfl ?_
      obtain ⟨b21, hb, H⟩ := H
      refine xt_getR dX9_leave_117 (flX9_30 rfl) ft_11_7 ho1.1 ho1.2 hb ?_
      refine xt_iload_n (j := 1) dX9_leave_120 rfl rfl ?_
      obtain ⟨ho22, H⟩ := H
      obtain ⟨hi, H⟩ := H
      refine xt_iald dX9_leave_121 ho22.1 ho22.2 hi ?_
      obtain ⟨ho23, H⟩ := H
      refine xt_callV (h2 := h) (as := [.int (mAI M b19 (mAI M b4 (x1 : Int32).toNatClampNeg : Int32).toNatClampNeg), .int (mAI M b21 (x1 * 20 : Int32).toNatClampNeg)]) (st := [.int (mAI M b16 (mAI M b4 (x1 : Int32).toNatClampNeg : Int32).toNatClampNeg), .ref b15]) dX9_leave_122 (mlX9_159 rfl) rfl ho23.1 ⟨by rw [ho23.2]; rfl, by rw [ho23.2]; decide⟩ (by first | decide | (simp [Value.category]; done)) (Nat.le_refl _) H (fun r M24 HH hE => ?_)
      obtain ⟨r25, hr, H⟩ := HH hE
      subst hr
      have ho1 := ok_E ho1 hE
      show T _ _ _ _ [.int r25, .int (mAI M b16 (mAI M b4 (x1 : Int32).toNatClampNeg : Int32).toNatClampNeg), .ref b15] _ _
      obtain ⟨ho26, H⟩ := H
      refine xt_callV (h2 := h) (as := [.int (mAI M b16 (mAI M b4 (x1 : Int32).toNatClampNeg : Int32).toNatClampNeg), .int r25]) (st := []) dX9_leave_125 (mlX9_106 rfl) rfl ho26.1 ⟨by rw [ho26.2]; rfl, by rw [ho26.2]; decide⟩ (by first | decide | (simp [Value.category]; done)) (Nat.le_refl _) H (fun r M27 HH hE => ?_)
      obtain ⟨hr, H⟩ := HH hE
      subst hr
      have ho1 := ok_E ho1 hE
      show T _ _ _ _ [] _ _
      refine xt_aload_n (j := 3) dX9_leave_128 rfl rfl ?_
      refine xt_iload (j := 0) dX9_leave_129 rfl ?_
      refine xt_iload_n (j := 1) dX9_leave_131 rfl rfl ?_
      refine xt_callV (h2 := h) (as := [.int ((mAI M b4 (x1 : Int32).toNatClampNeg) * 20), .int (x1 * 20)]) (st := []) dX9_leave_132 (mlX9_181 rfl) rfl ho1.1 ⟨by rw [ho1.2]; rfl, by rw [ho1.2]; decide⟩ (by first | decide | (simp [Value.category]; done)) (Nat.le_refl _) H (fun r M28 HH hE => ?_)
      obtain ⟨hr, H⟩ := HH hE
      subst hr
      have ho1 := ok_E ho1 hE
      show T _ _ _ _ [] _ _
      refine xt_aload_n (j := 3) dX9_leave_135 rfl rfl ?_
      obtain ⟨b29, hb, H⟩ := H
      refine xt_getR dX9_leave_136 (flX9_30 rfl) ft_11_7 ho1.1 ho1.2 hb ?_
      refine xt_iload (j := 0) dX9_leave_139 rfl ?_
      refine xt_iconst (v := 0) dX9_leave_141 (by decide) ?_
      obtain ⟨ho30, H⟩ := H
      obtain ⟨hi, H⟩ := H
      obtain ⟨M31, eM31⟩ : ∃ z, z = wAI M28 b29 ((mAI M b4 (x1 : Int32).toNatClampNeg) * 20 : Int32).toNatClampNeg 0 := ⟨_, rfl⟩
      have H := H _ eM31
      refine xt_iast dX9_leave_142 ho30.1 ho30.2 hi ?_
      have ho1 : ok M31 x0 11 := by rw [eM31]; exact ho1
      rw [← eM31]
      refine xt_goto (tgt := 215) dX9_leave_143 (by decide) ?_
      exact xt_sub [] rfl (VX9_leave_215 H)
    · have hx : (mAI M b8 (mAI M b4 (x1 : Int32).toNatClampNeg : Int32).toNatClampNeg) = 7 := i32_ofInt hv
      have H := H.2.2.2.1 hx
      refine xt_tableIn (tgt := 146) dX9_leave_30 (by omega) (by omega) (by rw [hv]; rfl) (by decide) ?_
      refine xt_aload_n (j := 3) dX9_leave_146 rfl rfl ?_
      refine xt_iload (j := 0) dX9_leave_147 rfl ?_
      refine xt_iload_n (j := 1) dX9_leave_149 rfl rfl ?_
      refine xt_callV (h2 := h) (as := [.int ((mAI M b4 (x1 : Int32).toNatClampNeg) * 20), .int (x1 * 20)]) (st := []) dX9_leave_150 (mlX9_181 rfl) rfl ho1.1 ⟨by rw [ho1.2]; rfl, by rw [ho1.2]; decide⟩ (by first | decide | (simp [Value.category]; done)) (Nat.le_refl _) H (fun r M32 HH hE => ?_)
      obtain ⟨hr, H⟩ := HH hE
      subst hr
      have ho1 := ok_E ho1 hE
      show T _ _ _ _ [] _ _
      refine xt_aload_n (j := 3) dX9_leave_153 rfl rfl ?_
      obtain ⟨b33, hb, H⟩ := H
      refine xt_getR dX9_leave_154 (flX9_80 rfl) ft_11_8 ho1.1 ho1.2 hb ?_
      refine xt_aload_n (j := 3) dX9_leave_157 rfl rfl ?_
      refine xt_iload_n (j := 2) dX9_leave_158 rfl rfl ?_
      refine xt_callV (h2 := h) (as := [.int (mAI M b4 (x1 : Int32).toNatClampNeg)]) (st := [.ref b33]) dX9_leave_159 (mlX9_156 rfl) rfl ho1.1 ⟨by rw [ho1.2]; rfl, by rw [ho1.2]; decide⟩ (by first | decide | (simp [Value.category]; done)) (Nat.le_refl _) H (fun r M34 HH hE => ?_)
      obtain ⟨r35, hr, H⟩ := HH hE
      subst hr
      have ho1 := ok_E ho1 hE
      show T _ _ _ _ [.int r35, .ref b33] _ _
      refine xt_aload_n (j := 3) dX9_leave_162 rfl rfl ?_
      obtain ⟨b36, hb, H⟩ := H
      refine xt_getR dX9_leave_163 (flX9_33 rfl) ft_11_0 ho1.1 ho1.2 hb ?_
      obtain ⟨ho37, H⟩ := H
      obtain ⟨b38, hb, H⟩ := H
      refine xt_getR dX9_leave_166 (flX9_149 rfl) ft_10_5 ho37.1 ho37.2 hb ?_
      refine xt_iload_n (j := 2) dX9_leave_169 rfl rfl ?_
      obtain ⟨ho39, H⟩ := H
      obtain ⟨hi, H⟩ := H
      refine xt_iald dX9_leave_170 ho39.1 ho39.2 hi ?_
      obtain ⟨ho40, H⟩ := H
      refine xt_callV (h2 := h) (as := [.int r35, .int (mAI M34 b38 (mAI M b4 (x1 : Int32).toNatClampNeg : Int32).toNatClampNeg)]) (st := []) dX9_leave_171 (mlX9_152 rfl) rfl ho40.1 ⟨by rw [ho40.2]; rfl, by rw [ho40.2]; decide⟩ (by first | decide | (simp [Value.category]; done)) (Nat.le_refl _) H (fun r M41 HH hE => ?_)
      obtain ⟨r42, hr, H⟩ := HH hE
      subst hr
      have ho1 := ok_E ho1 hE
      show T _ _ _ _ [.int r42] _ _
      refine xt_istore (lv' := [(5, .int r42), (4, .int ((mAI M b4 (x1 : Int32).toNatClampNeg) * 20)), (3, .int (x1 * 20)), (2, .int (mAI M b4 (x1 : Int32).toNatClampNeg)), (0, .ref x0), (1, .int x1)]) dX9_leave_174 (by decide) rfl ?_
      refine xt_aload_n (j := 4) dX9_leave_176 rfl rfl ?_
      obtain ⟨b43, hb, H⟩ := H
      refine xt_getR dX9_leave_177 (flX9_30 rfl) ft_11_7 ho1.1 ho1.2 hb ?_
      refine xt_iload (j := 1) dX9_leave_180 rfl ?_
      refine xt_iconst (v := 1) dX9_leave_182 (by decide) ?_
      refine xt_iadd dX9_leave_183 ?_
      refine xt_aload_n (j := 4) dX9_leave_184 rfl rfl ?_
      obtain ⟨b44, hb, H⟩ := H
      refine xt_getR dX9_leave_185 (flX9_80 rfl) ft_11_8 ho1.1 ho1.2 hb ?_
      refine xt_aload_n (j := 4) dX9_leave_188 rfl rfl ?_
      obtain ⟨b45, hb, H⟩ := H
      refine xt_getR dX9_leave_189 (flX9_30 rfl) ft_11_7 ho1.1 ho1.2 hb ?_
      refine xt_iload (j := 1) dX9_leave_192 rfl ?_
      refine xt_iconst (v := 1) dX9_leave_194 (by decide) ?_
      refine xt_iadd dX9_leave_195 ?_
      obtain ⟨ho46, H⟩ := H
      obtain ⟨hi, H⟩ := H
      refine xt_iald dX9_leave_196 ho46.1 ho46.2 hi ?_
      refine xt_iload (j := 0) dX9_leave_197 rfl ?_
      obtain ⟨ho47, H⟩ := H
      refine xt_callV (h2 := h) (as := [.int (mAI M41 b45 (((mAI M b4 (x1 : Int32).toNatClampNeg) * 20) + 1 : Int32).toNatClampNeg), .int r42]) (st := [.int (((mAI M b4 (x1 : Int32).toNatClampNeg) * 20) + 1), .ref b43]) dX9_leave_199 (mlX9_159 rfl) rfl ho47.1 ⟨by rw [ho47.2]; rfl, by rw [ho47.2]; decide⟩ (by first | decide | (simp [Value.category]; done)) (Nat.le_refl _) H (fun r M48 HH hE => ?_)
      obtain ⟨r49, hr, H⟩ := HH hE
      subst hr
      have ho1 := ok_E ho1 hE
      show T _ _ _ _ [.int r49, .int (((mAI M b4 (x1 : Int32).toNatClampNeg) * 20) + 1), .ref b43] _ _
      obtain ⟨ho50, H⟩ := H
      obtain ⟨hi, H⟩ := H
      obtain ⟨M51, eM51⟩ : ∃ z, z = wAI M48 b43 (((mAI M b4 (x1 : Int32).toNatClampNeg) * 20) + 1 : Int32).toNatClampNeg r49 := ⟨_, rfl⟩
      have H := H _ eM51
      refine xt_iast dX9_leave_202 ho50.1 ho50.2 hi ?_
      have ho1 : ok M51 x0 11 := by rw [eM51]; exact ho1
      rw [← eM51]
      refine xt_goto (tgt := 215) dX9_leave_203 (by decide) ?_
      exact xt_sub [] rfl (VX9_leave_215 H)
    · have hx : (mAI M b8 (mAI M b4 (x1 : Int32).toNatClampNeg : Int32).toNatClampNeg) = 8 := i32_ofInt hv
      have H := H.2.2.2.2.1 hx
      refine xt_tableIn (tgt := 215) dX9_leave_30 (by omega) (by omega) (by rw [hv]; rfl) (by decide) ?_
      exact xt_sub [] rfl (VX9_leave_215 H)
    · have hx : (mAI M b8 (mAI M b4 (x1 : Int32).toNatClampNeg : Int32).toNatClampNeg) = 9 := i32_ofInt hv
      have H := H.2.2.2.2.2.1 hx
      refine xt_tableIn (tgt := 206) dX9_leave_30 (by omega) (by omega) (by rw [hv]; rfl) (by decide) ?_
      refine xt_aload_n (j := 3) dX9_leave_206 rfl rfl ?_
      refine xt_iload_n (j := 2) dX9_leave_207 rfl rfl ?_
      refine xt_iload_n (j := 1) dX9_leave_208 rfl rfl ?_
      refine xt_callV (h2 := h) (as := [.int (mAI M b4 (x1 : Int32).toNatClampNeg), .int (x1 * 20)]) (st := []) dX9_leave_209 (mlX9_184 rfl) rfl ho1.1 ⟨by rw [ho1.2]; rfl, by rw [ho1.2]; decide⟩ (by first | decide | (simp [Value.category]; done)) (Nat.le_refl _) H (fun r M52 HH hE => ?_)
      obtain ⟨hr, H⟩ := HH hE
      subst hr
      have ho1 := ok_E ho1 hE
      show T _ _ _ _ [] _ _
      refine xt_goto (tgt := 215) dX9_leave_212 (by decide) ?_
      exact xt_sub [] rfl (VX9_leave_215 H)
theorem KX9_leave {h : Nat} {x0 : Nat} {x1 : Int32} {M : Mem} {Q : Option Value → Mem → Prop} (H : DX9_leave_0 h x0 x1 M Q) : E (h + 1) mdX9_leave [.ref x0, .int x1] M Q := E.of (by decide) (Nat.le_of_ble_eq_true rfl) (fun _ _ _ => trivial) (VX9_leave_0 H)
def DX9_orAll_2 (h : Nat) (x0 : Nat) (x1 : Int32) (x2 : Int32) (x3 : Int32) (M : Mem) (Q : Option Value → Mem → Prop) : Prop :=
  (20 ≤ x3 → Q none M) ∧
  (¬ (20 ≤ x3) → ok M x0 11 ∧ ∃ b2 : Nat, mR M x0 7 = some b2 ∧ ∃ b3 : Nat, mR M x0 8 = some b3 ∧ ∃ b4 : Nat, mR M x0 7 = some b4 ∧ ok M b4 21 ∧ vp_in (x1 + x3) (mL M b4) ∧ ∃ b6 : Nat, mR M x0 7 = some b6 ∧ ok M b6 21 ∧ vp_in (x2 + x3) (mL M b6) ∧ ok M b3 2 ∧ E h mdX0_or [.ref b3, .int (mAI M b4 (x1 + x3 : Int32).toNatClampNeg), .int (mAI M b6 (x2 + x3 : Int32).toNatClampNeg)] M (fun r M9 => mE M M9 → ∃ r10 : Int32, r = some (.int r10) ∧ ok M9 b2 21 ∧ vp_in (x1 + x3) (mL M9 b2) ∧ ∀ M12 : Mem, M12 = wAI M9 b2 (x1 + x3 : Int32).toNatClampNeg r10 →
  T (h + 1) mdX9_orAll 2 [(0, .ref x0), (1, .int x1), (2, .int x2), (3, .int (x3 + 1))] [] M12 Q))
set_option maxRecDepth 20000 in
set_option maxHeartbeats 2000000 in
theorem VX9_orAll_2 {h : Nat} {x0 : Nat} {x1 : Int32} {x2 : Int32} {x3 : Int32} {M : Mem} {Q : Option Value → Mem → Prop} (H : DX9_orAll_2 h x0 x1 x2 x3 M Q) : T (h + 1) mdX9_orAll 2 [(0, .ref x0), (1, .int x1), (2, .int x2), (3, .int x3)] [] M Q := by
  unfold DX9_orAll_2 at H
  refine xt_iload_n (j := 3) dX9_orAll_2 rfl rfl ?_
  refine xt_bipush (v := 20) dX9_orAll_3 (by decide) ?_
  refine xt_icmp_ge (tgt := 45) dX9_orAll_5 (by decide) (fun hc => ?_) (fun hc => ?_)
  · have H := H.1 hc
    exact xt_return dX9_orAll_45 rfl H
  · have H := H.2 hc
    refine xt_aload_n (j := 0) dX9_orAll_8 rfl rfl ?_
    obtain ⟨ho1, H⟩ := H
    obtain ⟨b2, hb, H⟩ := H
    refine xt_getR dX9_orAll_9 (flX9_30 rfl) ft_11_7 ho1.1 ho1.2 hb ?_
    refine xt_iload_n (j := 1) dX9_orAll_12 rfl rfl ?_
    refine xt_iload_n (j := 3) dX9_orAll_13 rfl rfl ?_
    refine xt_iadd dX9_orAll_14 ?_
    refine xt_aload_n (j := 0) dX9_orAll_15 rfl rfl ?_
    obtain ⟨b3, hb, H⟩ := H
    refine xt_getR dX9_orAll_16 (flX9_80 rfl) ft_11_8 ho1.1 ho1.2 hb ?_
    refine xt_aload_n (j := 0) dX9_orAll_19 rfl rfl ?_
    obtain ⟨b4, hb, H⟩ := H
    refine xt_getR dX9_orAll_20 (flX9_30 rfl) ft_11_7 ho1.1 ho1.2 hb ?_
    refine xt_iload_n (j := 1) dX9_orAll_23 rfl rfl ?_
    refine xt_iload_n (j := 3) dX9_orAll_24 rfl rfl ?_
    refine xt_iadd dX9_orAll_25 ?_
    obtain ⟨ho5, H⟩ := H
    obtain ⟨hi, H⟩ := H
    refine xt_iald dX9_orAll_26 ho5.1 ho5.2 hi ?_
    refine xt_aload_n (j := 0) dX9_orAll_27 rfl rfl ?_
    obtain ⟨b6, hb, H⟩ := H
    refine xt_getR dX9_orAll_28 (flX9_30 rfl) ft_11_7 ho1.1 ho1.2 hb ?_
    refine xt_iload_n (j := 2) dX9_orAll_31 rfl rfl ?_
    refine xt_iload_n (j := 3) dX9_orAll_32 rfl rfl ?_
    refine xt_iadd dX9_orAll_33 ?_
    obtain ⟨ho7, H⟩ := H
    obtain ⟨hi, H⟩ := H
    refine xt_iald dX9_orAll_34 ho7.1 ho7.2 hi ?_
    obtain ⟨ho8, H⟩ := H
    refine xt_callV (h2 := h) (as := [.int (mAI M b4 (x1 + x3 : Int32).toNatClampNeg), .int (mAI M b6 (x2 + x3 : Int32).toNatClampNeg)]) (st := [.int (x1 + x3), .ref b2]) dX9_orAll_35 (mlX9_159 rfl) rfl ho8.1 ⟨by rw [ho8.2]; rfl, by rw [ho8.2]; decide⟩ (by first | decide | (simp [Value.category]; done)) (Nat.le_refl _) H (fun r M9 HH hE => ?_)
    obtain ⟨r10, hr, H⟩ := HH hE
    subst hr
    have ho1 := ok_E ho1 hE
    show T _ _ _ _ [.int r10, .int (x1 + x3), .ref b2] _ _
    obtain ⟨ho11, H⟩ := H
    obtain ⟨hi, H⟩ := H
    obtain ⟨M12, eM12⟩ : ∃ z, z = wAI M9 b2 (x1 + x3 : Int32).toNatClampNeg r10 := ⟨_, rfl⟩
    have H := H _ eM12
    refine xt_iast dX9_orAll_38 ho11.1 ho11.2 hi ?_
    have ho1 : ok M12 x0 11 := by rw [eM12]; exact ho1
    rw [← eM12]
    refine xt_iinc (j := 3) (v := x3 + 1) (lv' := [(3, .int (x3 + 1)), (0, .ref x0), (1, .int x1), (2, .int x2)]) dX9_orAll_39 rfl (by rfl) (by decide) rfl ?_
    refine xt_goto (tgt := 2) dX9_orAll_42 (by decide) ?_
    exact xt_sub (lv' := [(0, .ref x0), (1, .int x1), (2, .int x2), (3, .int (x3 + 1))]) [1, 2, 3, 0] rfl H
def DX9_orAll_0 (h : Nat) (x0 : Nat) (x1 : Int32) (x2 : Int32) (M : Mem) (Q : Option Value → Mem → Prop) : Prop :=
  T (h + 1) mdX9_orAll 2 [(0, .ref x0), (1, .int x1), (2, .int x2), (3, .int 0)] [] M Q
set_option maxRecDepth 20000 in
set_option maxHeartbeats 2000000 in
theorem VX9_orAll_0 {h : Nat} {x0 : Nat} {x1 : Int32} {x2 : Int32} {M : Mem} {Q : Option Value → Mem → Prop} (H : DX9_orAll_0 h x0 x1 x2 M Q) : T (h + 1) mdX9_orAll 0 [(0, .ref x0), (1, .int x1), (2, .int x2)] [] M Q := by
  unfold DX9_orAll_0 at H
  refine xt_iconst (v := 0) dX9_orAll_0 (by decide) ?_
  refine xt_istore_n (lv' := [(3, .int 0), (0, .ref x0), (1, .int x1), (2, .int x2)]) dX9_orAll_1 rfl (by decide) rfl ?_
  exact xt_sub (lv' := [(0, .ref x0), (1, .int x1), (2, .int x2), (3, .int 0)]) [1, 2, 3, 0] rfl H
theorem KX9_orAll {h : Nat} {x0 : Nat} {x1 : Int32} {x2 : Int32} {M : Mem} {Q : Option Value → Mem → Prop} (H : DX9_orAll_0 h x0 x1 x2 M Q) : E (h + 1) mdX9_orAll [.ref x0, .int x1, .int x2] M Q := E.of (by decide) (Nat.le_of_ble_eq_true rfl) (fun _ _ _ => trivial) (VX9_orAll_0 H)
def DX9_leaveTrap_85 (h : Nat) (x0 : Nat) (x2 : Int32) (x3 : Int32) (x4 : Int32) (M : Mem) (Q : Option Value → Mem → Prop) : Prop :=
  (20 ≤ (x4 + 1) → Q none M) ∧
  (¬ (20 ≤ (x4 + 1)) → ok M x0 11 ∧ ∃ b2 : Nat, mR M x0 7 = some b2 ∧ ∃ b3 : Nat, mR M x0 7 = some b3 ∧ ok M b3 21 ∧ vp_in ((x2 + x4) + 1) (mL M b3) ∧ ok M b2 21 ∧ vp_in (x3 + x4) (mL M b2) ∧ ∀ M6 : Mem, M6 = wAI M b2 (x3 + x4 : Int32).toNatClampNeg (mAI M b3 ((x2 + x4) + 1 : Int32).toNatClampNeg) →
  T (h + 1) mdX9_leaveTrap 85 [(0, .ref x0), (2, .int x2), (3, .int x3), (4, .int (x4 + 1))] [] M6 Q)
set_option maxRecDepth 20000 in
set_option maxHeartbeats 2000000 in
theorem VX9_leaveTrap_85 {h : Nat} {x0 : Nat} {x2 : Int32} {x3 : Int32} {x4 : Int32} {M : Mem} {Q : Option Value → Mem → Prop} (H : DX9_leaveTrap_85 h x0 x2 x3 x4 M Q) : T (h + 1) mdX9_leaveTrap 85 [(0, .ref x0), (2, .int x2), (3, .int x3), (4, .int x4)] [] M Q := by
  unfold DX9_leaveTrap_85 at H
  refine xt_iload (j := 3) dX9_leaveTrap_85 rfl ?_
  refine xt_iconst (v := 1) dX9_leaveTrap_87 (by decide) ?_
  refine xt_iadd dX9_leaveTrap_88 ?_
  refine xt_bipush (v := 20) dX9_leaveTrap_89 (by decide) ?_
  refine xt_icmp_ge (tgt := 120) dX9_leaveTrap_91 (by decide) (fun hc => ?_) (fun hc => ?_)
  · have H := H.1 hc
    exact xt_return dX9_leaveTrap_120 rfl H
  · have H := H.2 hc
    refine xt_aload_n (j := 0) dX9_leaveTrap_94 rfl rfl ?_
    obtain ⟨ho1, H⟩ := H
    obtain ⟨b2, hb, H⟩ := H
    refine xt_getR dX9_leaveTrap_95 (flX9_30 rfl) ft_11_7 ho1.1 ho1.2 hb ?_
    refine xt_iload_n (j := 2) dX9_leaveTrap_98 rfl rfl ?_
    refine xt_iload (j := 3) dX9_leaveTrap_99 rfl ?_
    refine xt_iadd dX9_leaveTrap_101 ?_
    refine xt_aload_n (j := 0) dX9_leaveTrap_102 rfl rfl ?_
    obtain ⟨b3, hb, H⟩ := H
    refine xt_getR dX9_leaveTrap_103 (flX9_30 rfl) ft_11_7 ho1.1 ho1.2 hb ?_
    refine xt_iload_n (j := 1) dX9_leaveTrap_106 rfl rfl ?_
    refine xt_iload (j := 3) dX9_leaveTrap_107 rfl ?_
    refine xt_iadd dX9_leaveTrap_109 ?_
    refine xt_iconst (v := 1) dX9_leaveTrap_110 (by decide) ?_
    refine xt_iadd dX9_leaveTrap_111 ?_
    obtain ⟨ho4, H⟩ := H
    obtain ⟨hi, H⟩ := H
    refine xt_iald dX9_leaveTrap_112 ho4.1 ho4.2 hi ?_
    obtain ⟨ho5, H⟩ := H
    obtain ⟨hi, H⟩ := H
    obtain ⟨M6, eM6⟩ : ∃ z, z = wAI M b2 (x3 + x4 : Int32).toNatClampNeg (mAI M b3 ((x2 + x4) + 1 : Int32).toNatClampNeg) := ⟨_, rfl⟩
    have H := H _ eM6
    refine xt_iast dX9_leaveTrap_113 ho5.1 ho5.2 hi ?_
    have ho1 : ok M6 x0 11 := by rw [eM6]; exact ho1
    rw [← eM6]
    refine xt_iinc (j := 3) (v := x4 + 1) (lv' := [(4, .int (x4 + 1)), (0, .ref x0), (2, .int x2), (3, .int x3)]) dX9_leaveTrap_114 rfl (by rfl) (by decide) rfl ?_
    refine xt_goto (tgt := 85) dX9_leaveTrap_117 (by decide) ?_
    exact xt_sub (lv' := [(0, .ref x0), (2, .int x2), (3, .int x3), (4, .int (x4 + 1))]) [1, 2, 3, 0] rfl H
def DX9_leaveTrap_0 (h : Nat) (x0 : Nat) (x1 : Int32) (x2 : Int32) (M : Mem) (Q : Option Value → Mem → Prop) : Prop :=
  ok M x0 11 ∧ ∃ b2 : Nat, mR M x0 8 = some b2 ∧ ∃ b3 : Nat, mR M x0 5 = some b3 ∧ ok M b3 21 ∧ vp_in x1 (mL M b3) ∧ ∃ b5 : Nat, mR M x0 8 = some b5 ∧ ∃ b6 : Nat, mR M x0 4 = some b6 ∧ ok M b6 21 ∧ vp_in x1 (mL M b6) ∧ ∃ b8 : Nat, mR M x0 7 = some b8 ∧ ok M b8 21 ∧ vp_in (x2 + 2) (mL M b8) ∧ ok M b5 2 ∧ E h mdX0_or [.ref b5, .int (mAI M b6 (x1 : Int32).toNatClampNeg), .int (mAI M b8 (x2 + 2 : Int32).toNatClampNeg)] M (fun r M11 => mE M M11 → ∃ r12 : Int32, r = some (.int r12) ∧ ok M11 b2 2 ∧ E h mdX0_close [.ref b2, .int (mAI M b3 (x1 : Int32).toNatClampNeg), .int r12] M11 (fun r M14 => mE M11 M14 → r = none ∧ ∃ b15 : Nat, mR M14 x0 7 = some b15 ∧ ∃ b16 : Nat, mR M14 x0 8 = some b16 ∧ ∃ b17 : Nat, mR M14 x0 7 = some b17 ∧ ok M14 b17 21 ∧ vp_in x2 (mL M14 b17) ∧ ∃ b19 : Nat, mR M14 x0 7 = some b19 ∧ ok M14 b19 21 ∧ vp_in (x2 + 2) (mL M14 b19) ∧ ok M14 b16 2 ∧ E h mdX0_or [.ref b16, .int (mAI M14 b17 (x2 : Int32).toNatClampNeg), .int (mAI M14 b19 (x2 + 2 : Int32).toNatClampNeg)] M14 (fun r M22 => mE M14 M22 → ∃ r23 : Int32, r = some (.int r23) ∧ ok M22 b15 21 ∧ vp_in (x1 * 20) (mL M22 b15) ∧ ∀ M25 : Mem, M25 = wAI M22 b15 (x1 * 20 : Int32).toNatClampNeg r23 →
  ∃ b26 : Nat, mR M25 x0 7 = some b26 ∧ ∃ b27 : Nat, mR M25 x0 7 = some b27 ∧ ok M25 b27 21 ∧ vp_in (x2 + 1) (mL M25 b27) ∧ ok M25 b26 21 ∧ vp_in ((x1 * 20) + 1) (mL M25 b26) ∧ ∀ M30 : Mem, M30 = wAI M25 b26 ((x1 * 20) + 1 : Int32).toNatClampNeg (mAI M25 b27 (x2 + 1 : Int32).toNatClampNeg) →
  T (h + 1) mdX9_leaveTrap 85 [(0, .ref x0), (2, .int x2), (3, .int (x1 * 20)), (4, .int 2)] [] M30 Q)))
set_option maxRecDepth 20000 in
set_option maxHeartbeats 2000000 in
theorem VX9_leaveTrap_0 {h : Nat} {x0 : Nat} {x1 : Int32} {x2 : Int32} {M : Mem} {Q : Option Value → Mem → Prop} (H : DX9_leaveTrap_0 h x0 x1 x2 M Q) : T (h + 1) mdX9_leaveTrap 0 [(0, .ref x0), (1, .int x1), (2, .int x2)] [] M Q := by
  unfold DX9_leaveTrap_0 at H
  refine xt_iload_n (j := 1) dX9_leaveTrap_0 rfl rfl ?_
  refine xt_bipush (v := 20) dX9_leaveTrap_1 (by decide) ?_
  refine xt_imul dX9_leaveTrap_3 ?_
  refine xt_istore_n (lv' := [(3, .int (x1 * 20)), (0, .ref x0), (1, .int x1), (2, .int x2)]) dX9_leaveTrap_4 rfl (by decide) rfl ?_
  refine xt_aload_n (j := 1) dX9_leaveTrap_5 rfl rfl ?_
  obtain ⟨ho1, H⟩ := H
  obtain ⟨b2, hb, H⟩ := H
  refine xt_getR dX9_leaveTrap_6 (flX9_80 rfl) ft_11_8 ho1.1 ho1.2 hb ?_
  refine xt_aload_n (j := 1) dX9_leaveTrap_9 rfl rfl ?_
  obtain ⟨b3, hb, H⟩ := H
  refine xt_getR dX9_leaveTrap_10 (flX9_24 rfl) ft_11_5 ho1.1 ho1.2 hb ?_
  refine xt_iload_n (j := 2) dX9_leaveTrap_13 rfl rfl ?_
  obtain ⟨ho4, H⟩ := H
  obtain ⟨hi, H⟩ := H
  refine xt_iald dX9_leaveTrap_14 ho4.1 ho4.2 hi ?_
  refine xt_aload_n (j := 1) dX9_leaveTrap_15 rfl rfl ?_
  obtain ⟨b5, hb, H⟩ := H
  refine xt_getR dX9_leaveTrap_16 (flX9_80 rfl) ft_11_8 ho1.1 ho1.2 hb ?_
  refine xt_aload_n (j := 1) dX9_leaveTrap_19 rfl rfl ?_
  obtain ⟨b6, hb, H⟩ := H
  refine xt_getR dX9_leaveTrap_20 (flX9_21 rfl) ft_11_4 ho1.1 ho1.2 hb ?_
  refine xt_iload_n (j := 2) dX9_leaveTrap_23 rfl rfl ?_
  obtain ⟨ho7, H⟩ := H
  obtain ⟨hi, H⟩ := H
  refine xt_iald dX9_leaveTrap_24 ho7.1 ho7.2 hi ?_
  refine xt_aload_n (j := 1) dX9_leaveTrap_25 rfl rfl ?_
  obtain ⟨b8, hb, H⟩ := H
  refine xt_getR dX9_leaveTrap_26 (flX9_30 rfl) ft_11_7 ho1.1 ho1.2 hb ?_
  refine xt_iload_n (j := 3) dX9_leaveTrap_29 rfl rfl ?_
  refine xt_iconst (v := 2) dX9_leaveTrap_30 (by decide) ?_
  refine xt_iadd dX9_leaveTrap_31 ?_
  obtain ⟨ho9, H⟩ := H
  obtain ⟨hi, H⟩ := H
  refine xt_iald dX9_leaveTrap_32 ho9.1 ho9.2 hi ?_
  obtain ⟨ho10, H⟩ := H
  refine xt_callV (h2 := h) (as := [.int (mAI M b6 (x1 : Int32).toNatClampNeg), .int (mAI M b8 (x2 + 2 : Int32).toNatClampNeg)]) (st := [.int (mAI M b3 (x1 : Int32).toNatClampNeg), .ref b2]) dX9_leaveTrap_33 (mlX9_159 rfl) rfl ho10.1 ⟨by rw [ho10.2]; rfl, by rw [ho10.2]; decide⟩ (by first | decide | (simp [Value.category]; done)) (Nat.le_refl _) H (fun r M11 HH hE => ?_)
  obtain ⟨r12, hr, H⟩ := HH hE
  subst hr
  have ho1 := ok_E ho1 hE
  show T _ _ _ _ [.int r12, .int (mAI M b3 (x1 : Int32).toNatClampNeg), .ref b2] _ _
  obtain ⟨ho13, H⟩ := H
  refine xt_callV (h2 := h) (as := [.int (mAI M b3 (x1 : Int32).toNatClampNeg), .int r12]) (st := []) dX9_leaveTrap_36 (mlX9_106 rfl) rfl ho13.1 ⟨by rw [ho13.2]; rfl, by rw [ho13.2]; decide⟩ (by first | decide | (simp [Value.category]; done)) (Nat.le_refl _) H (fun r M14 HH hE => ?_)
  obtain ⟨hr, H⟩ := HH hE
  subst hr
  have ho1 := ok_E ho1 hE
  show T _ _ _ _ [] _ _
  refine xt_aload_n (j := 1) dX9_leaveTrap_39 rfl rfl ?_
  obtain ⟨b15, hb, H⟩ := H
  refine xt_getR dX9_leaveTrap_40 (flX9_30 rfl) ft_11_7 ho1.1 ho1.2 hb ?_
  refine xt_iload_n (j := 0) dX9_leaveTrap_43 rfl rfl ?_
  refine xt_aload_n (j := 1) dX9_leaveTrap_44 rfl rfl ?_
  obtain ⟨b16, hb, H⟩ := H
  refine xt_getR dX9_leaveTrap_45 (flX9_80 rfl) ft_11_8 ho1.1 ho1.2 hb ?_
  refine xt_aload_n (j := 1) dX9_leaveTrap_48 rfl rfl ?_
  obtain ⟨b17, hb, H⟩ := H
  refine xt_getR dX9_leaveTrap_49 (flX9_30 rfl) ft_11_7 ho1.1 ho1.2 hb ?_
  refine xt_iload_n (j := 3) dX9_leaveTrap_52 rfl rfl ?_
  obtain ⟨ho18, H⟩ := H
  obtain ⟨hi, H⟩ := H
  refine xt_iald dX9_leaveTrap_53 ho18.1 ho18.2 hi ?_
  refine xt_aload_n (j := 1) dX9_leaveTrap_54 rfl rfl ?_
  obtain ⟨b19, hb, H⟩ := H
  refine xt_getR dX9_leaveTrap_55 (flX9_30 rfl) ft_11_7 ho1.1 ho1.2 hb ?_
  refine xt_iload_n (j := 3) dX9_leaveTrap_58 rfl rfl ?_
  refine xt_iconst (v := 2) dX9_leaveTrap_59 (by decide) ?_
  refine xt_iadd dX9_leaveTrap_60 ?_
  obtain ⟨ho20, H⟩ := H
  obtain ⟨hi, H⟩ := H
  refine xt_iald dX9_leaveTrap_61 ho20.1 ho20.2 hi ?_
  obtain ⟨ho21, H⟩ := H
  refine xt_callV (h2 := h) (as := [.int (mAI M14 b17 (x2 : Int32).toNatClampNeg), .int (mAI M14 b19 (x2 + 2 : Int32).toNatClampNeg)]) (st := [.int (x1 * 20), .ref b15]) dX9_leaveTrap_62 (mlX9_159 rfl) rfl ho21.1 ⟨by rw [ho21.2]; rfl, by rw [ho21.2]; decide⟩ (by first | decide | (simp [Value.category]; done)) (Nat.le_refl _) H (fun r M22 HH hE => ?_)
  obtain ⟨r23, hr, H⟩ := HH hE
  subst hr
  have ho1 := ok_E ho1 hE
  show T _ _ _ _ [.int r23, .int (x1 * 20), .ref b15] _ _
  obtain ⟨ho24, H⟩ := H
  obtain ⟨hi, H⟩ := H
  obtain ⟨M25, eM25⟩ : ∃ z, z = wAI M22 b15 (x1 * 20 : Int32).toNatClampNeg r23 := ⟨_, rfl⟩
  have H := H _ eM25
  refine xt_iast dX9_leaveTrap_65 ho24.1 ho24.2 hi ?_
  have ho1 : ok M25 x0 11 := by rw [eM25]; exact ho1
  rw [← eM25]
  refine xt_aload_n (j := 1) dX9_leaveTrap_66 rfl rfl ?_
  obtain ⟨b26, hb, H⟩ := H
  refine xt_getR dX9_leaveTrap_67 (flX9_30 rfl) ft_11_7 ho1.1 ho1.2 hb ?_
  refine xt_iload_n (j := 0) dX9_leaveTrap_70 rfl rfl ?_
  refine xt_iconst (v := 1) dX9_leaveTrap_71 (by decide) ?_
  refine xt_iadd dX9_leaveTrap_72 ?_
  refine xt_aload_n (j := 1) dX9_leaveTrap_73 rfl rfl ?_
  obtain ⟨b27, hb, H⟩ := H
  refine xt_getR dX9_leaveTrap_74 (flX9_30 rfl) ft_11_7 ho1.1 ho1.2 hb ?_
  refine xt_iload_n (j := 3) dX9_leaveTrap_77 rfl rfl ?_
  refine xt_iconst (v := 1) dX9_leaveTrap_78 (by decide) ?_
  refine xt_iadd dX9_leaveTrap_79 ?_
  obtain ⟨ho28, H⟩ := H
  obtain ⟨hi, H⟩ := H
  refine xt_iald dX9_leaveTrap_80 ho28.1 ho28.2 hi ?_
  obtain ⟨ho29, H⟩ := H
  obtain ⟨hi, H⟩ := H
  obtain ⟨M30, eM30⟩ : ∃ z, z = wAI M25 b26 ((x1 * 20) + 1 : Int32).toNatClampNeg (mAI M25 b27 (x2 + 1 : Int32).toNatClampNeg) := ⟨_, rfl⟩
  have H := H _ eM30
  refine xt_iast dX9_leaveTrap_81 ho29.1 ho29.2 hi ?_
  have ho1 : ok M30 x0 11 := by rw [eM30]; exact ho1
  rw [← eM30]
  refine xt_iconst (v := 2) dX9_leaveTrap_82 (by decide) ?_
  refine xt_istore (lv' := [(4, .int 2), (3, .int (x1 * 20)), (0, .ref x0), (1, .int x1), (2, .int x2)]) dX9_leaveTrap_83 (by decide) rfl ?_
  exact xt_sub (lv' := [(0, .ref x0), (2, .int x2), (3, .int (x1 * 20)), (4, .int 2)]) [2, 4, 1, 0] rfl H
theorem KX9_leaveTrap {h : Nat} {x0 : Nat} {x1 : Int32} {x2 : Int32} {M : Mem} {Q : Option Value → Mem → Prop} (H : DX9_leaveTrap_0 h x0 x1 x2 M Q) : E (h + 1) mdX9_leaveTrap [.ref x0, .int x1, .int x2] M Q := E.of (by decide) (Nat.le_of_ble_eq_true rfl) (fun _ _ _ => trivial) (VX9_leaveTrap_0 H)
def DX9_joinBranches_87 (h : Nat) (x0 : Nat) (x1 : Int32) (x4 : Int32) (M : Mem) (Q : Option Value → Mem → Prop) : Prop :=
  (20 ≤ x4 → Q none M) ∧
  (¬ (20 ≤ x4) → ok M x0 11 ∧ ∃ b2 : Nat, mR M x0 7 = some b2 ∧ E h mdX9_joined [.ref x0, .int x1, .int x4] M (fun r M3 => mE M M3 → ∃ r4 : Int32, r = some (.int r4) ∧ ok M3 b2 21 ∧ vp_in ((x1 * 20) + x4) (mL M3 b2) ∧ ∀ M6 : Mem, M6 = wAI M3 b2 ((x1 * 20) + x4 : Int32).toNatClampNeg r4 →
  T (h + 1) mdX9_joinBranches 87 [(0, .ref x0), (1, .int x1), (4, .int (x4 + 1))] [] M6 Q))
set_option maxRecDepth 20000 in
set_option maxHeartbeats 2000000 in
theorem VX9_joinBranches_87 {h : Nat} {x0 : Nat} {x1 : Int32} {x4 : Int32} {M : Mem} {Q : Option Value → Mem → Prop} (H : DX9_joinBranches_87 h x0 x1 x4 M Q) : T (h + 1) mdX9_joinBranches 87 [(0, .ref x0), (1, .int x1), (4, .int x4)] [] M Q := by
  unfold DX9_joinBranches_87 at H
  refine xt_iload (j := 2) dX9_joinBranches_87 rfl ?_
  refine xt_bipush (v := 20) dX9_joinBranches_89 (by decide) ?_
  refine xt_icmp_ge (tgt := 119) dX9_joinBranches_91 (by decide) (fun hc => ?_) (fun hc => ?_)
  · have H := H.1 hc
    exact xt_return dX9_joinBranches_119 rfl H
  · have H := H.2 hc
    refine xt_aload_n (j := 0) dX9_joinBranches_94 rfl rfl ?_
    obtain ⟨ho1, H⟩ := H
    obtain ⟨b2, hb, H⟩ := H
    refine xt_getR dX9_joinBranches_95 (flX9_30 rfl) ft_11_7 ho1.1 ho1.2 hb ?_
    refine xt_iload_n (j := 1) dX9_joinBranches_98 rfl rfl ?_
    refine xt_bipush (v := 20) dX9_joinBranches_99 (by decide) ?_
    refine xt_imul dX9_joinBranches_101 ?_
    refine xt_iload (j := 2) dX9_joinBranches_102 rfl ?_
    refine xt_iadd dX9_joinBranches_104 ?_
    refine xt_aload_n (j := 0) dX9_joinBranches_105 rfl rfl ?_
    refine xt_iload_n (j := 1) dX9_joinBranches_106 rfl rfl ?_
    refine xt_iload (j := 2) dX9_joinBranches_107 rfl ?_
    refine xt_callV (h2 := h) (as := [.int x1, .int x4]) (st := [.int ((x1 * 20) + x4), .ref b2]) dX9_joinBranches_109 (mlX9_187 rfl) rfl ho1.1 ⟨by rw [ho1.2]; rfl, by rw [ho1.2]; decide⟩ (by first | decide | (simp [Value.category]; done)) (Nat.le_refl _) H (fun r M3 HH hE => ?_)
    obtain ⟨r4, hr, H⟩ := HH hE
    subst hr
    have ho1 := ok_E ho1 hE
    show T _ _ _ _ [.int r4, .int ((x1 * 20) + x4), .ref b2] _ _
    obtain ⟨ho5, H⟩ := H
    obtain ⟨hi, H⟩ := H
    obtain ⟨M6, eM6⟩ : ∃ z, z = wAI M3 b2 ((x1 * 20) + x4 : Int32).toNatClampNeg r4 := ⟨_, rfl⟩
    have H := H _ eM6
    refine xt_iast dX9_joinBranches_112 ho5.1 ho5.2 hi ?_
    have ho1 : ok M6 x0 11 := by rw [eM6]; exact ho1
    rw [← eM6]
    refine xt_iinc (j := 2) (v := x4 + 1) (lv' := [(4, .int (x4 + 1)), (0, .ref x0), (1, .int x1)]) dX9_joinBranches_113 rfl (by rfl) (by decide) rfl ?_
    refine xt_goto (tgt := 87) dX9_joinBranches_116 (by decide) ?_
    exact xt_sub (lv' := [(0, .ref x0), (1, .int x1), (4, .int (x4 + 1))]) [1, 2, 0] rfl H
def DX9_joinBranches_84 (h : Nat) (x0 : Nat) (x1 : Int32) (M : Mem) (Q : Option Value → Mem → Prop) : Prop :=
  T (h + 1) mdX9_joinBranches 87 [(0, .ref x0), (1, .int x1), (4, .int 0)] [] M Q
set_option maxRecDepth 20000 in
set_option maxHeartbeats 2000000 in
theorem VX9_joinBranches_84 {h : Nat} {x0 : Nat} {x1 : Int32} {M : Mem} {Q : Option Value → Mem → Prop} (H : DX9_joinBranches_84 h x0 x1 M Q) : T (h + 1) mdX9_joinBranches 84 [(0, .ref x0), (1, .int x1)] [] M Q := by
  unfold DX9_joinBranches_84 at H
  refine xt_iconst (v := 0) dX9_joinBranches_84 (by decide) ?_
  refine xt_istore (lv' := [(4, .int 0), (0, .ref x0), (1, .int x1)]) dX9_joinBranches_85 (by decide) rfl ?_
  exact xt_sub (lv' := [(0, .ref x0), (1, .int x1), (4, .int 0)]) [1, 2, 0] rfl H
def DX9_joinBranches_19 (h : Nat) (x0 : Nat) (x1 : Int32) (x2 : Int32) (x3 : Int32) (x4 : Int32) (M : Mem) (Q : Option Value → Mem → Prop) : Prop :=
  (640 ≤ x4 → DX9_joinBranches_84 h x0 x1 M Q) ∧
  (¬ (640 ≤ x4) → (x3 = 0 → DX9_joinBranches_84 h x0 x1 M Q) ∧
  (¬ (x3 = 0) → ok M x0 11 ∧ ∃ b2 : Nat, mR M x0 8 = some b2 ∧ ∃ b3 : Nat, mR M x0 0 = some b3 ∧ ok M b3 10 ∧ ∃ b5 : Nat, mR M b3 7 = some b5 ∧ ok M b5 21 ∧ vp_in x3 (mL M b5) ∧ ok M b2 2 ∧ E h mdX0_holding [.ref b2, .int (mAI M b5 (x3 : Int32).toNatClampNeg)] M (fun r M8 => mE M M8 → ∃ r9 : Int32, r = some (.int r9) ∧ ∃ b10 : Nat, mR M8 x0 6 = some b10 ∧ ∃ b11 : Nat, mR M8 x0 8 = some b11 ∧ E h mdX0_not [.int r9] M8 (fun r M12 => mE M8 M12 → ∃ r13 : Int32, r = some (.int r13) ∧ ok M12 b11 2 ∧ E h mdX0_and [.ref b11, .int x2, .int r13] M12 (fun r M15 => mE M12 M15 → ∃ r16 : Int32, r = some (.int r16) ∧ ok M15 b10 21 ∧ vp_in x3 (mL M15 b10) ∧ ∀ M18 : Mem, M18 = wAI M15 b10 (x3 : Int32).toNatClampNeg r16 →
  ∃ b19 : Nat, mR M18 x0 0 = some b19 ∧ ok M18 b19 10 ∧ ∃ b21 : Nat, mR M18 b19 3 = some b21 ∧ ok M18 b21 21 ∧ vp_in x3 (mL M18 b21) ∧ T (h + 1) mdX9_joinBranches 19 [(0, .ref x0), (1, .int x1), (2, .int x2), (3, .int (mAI M18 b21 (x3 : Int32).toNatClampNeg)), (4, .int (x4 + 1))] [] M18 Q)))))
set_option maxRecDepth 20000 in
set_option maxHeartbeats 2000000 in
theorem VX9_joinBranches_19 {h : Nat} {x0 : Nat} {x1 : Int32} {x2 : Int32} {x3 : Int32} {x4 : Int32} {M : Mem} {Q : Option Value → Mem → Prop} (H : DX9_joinBranches_19 h x0 x1 x2 x3 x4 M Q) : T (h + 1) mdX9_joinBranches 19 [(0, .ref x0), (1, .int x1), (2, .int x2), (3, .int x3), (4, .int x4)] [] M Q := by
  unfold DX9_joinBranches_19 at H
  refine xt_iload (j := 4) dX9_joinBranches_19 rfl ?_
  refine xt_sipush (v := 640) dX9_joinBranches_21 (by decide) ?_
  refine xt_icmp_ge (tgt := 84) dX9_joinBranches_24 (by decide) (fun hc => ?_) (fun hc => ?_)
  · have H := H.1 hc
    exact xt_sub [0, 1] rfl (VX9_joinBranches_84 H)
  · have H := H.2 hc
    refine xt_iload_n (j := 3) dX9_joinBranches_27 rfl rfl ?_
    refine xt_if_eq (tgt := 84) dX9_joinBranches_28 (by decide) (fun hc => ?_) (fun hc => ?_)
    · have H := H.1 hc
      exact xt_sub [0, 1] rfl (VX9_joinBranches_84 H)
    · have H := H.2 hc
      refine xt_aload_n (j := 0) dX9_joinBranches_31 rfl rfl ?_
      obtain ⟨ho1, H⟩ := H
      obtain ⟨b2, hb, H⟩ := H
      refine xt_getR dX9_joinBranches_32 (flX9_80 rfl) ft_11_8 ho1.1 ho1.2 hb ?_
      refine xt_aload_n (j := 0) dX9_joinBranches_35 rfl rfl ?_
      obtain ⟨b3, hb, H⟩ := H
      refine xt_getR dX9_joinBranches_36 (flX9_33 rfl) ft_11_0 ho1.1 ho1.2 hb ?_
      obtain ⟨ho4, H⟩ := H
      obtain ⟨b5, hb, H⟩ := H
      refine xt_getR dX9_joinBranches_39 (flX9_133 rfl) ft_10_7 ho4.1 ho4.2 hb ?_
      refine xt_iload_n (j := 3) dX9_joinBranches_42 rfl rfl ?_
      obtain ⟨ho6, H⟩ := H
      obtain ⟨hi, H⟩ := H
      refine xt_iald dX9_joinBranches_43 ho6.1 ho6.2 hi ?_
      obtain ⟨ho7, H⟩ := H
      refine xt_callV (h2 := h) (as := [.int (mAI M b5 (x3 : Int32).toNatClampNeg)]) (st := []) dX9_joinBranches_44 (mlX9_162 rfl) rfl ho7.1 ⟨by rw [ho7.2]; rfl, by rw [ho7.2]; decide⟩ (by first | decide | (simp [Value.category]; done)) (Nat.le_refl _) H (fun r M8 HH hE => ?_)
      obtain ⟨r9, hr, H⟩ := HH hE
      subst hr
      have ho1 := ok_E ho1 hE
      show T _ _ _ _ [.int r9] _ _
      refine xt_istore (lv' := [(5, .int r9), (0, .ref x0), (1, .int x1), (2, .int x2), (3, .int x3), (4, .int x4)]) dX9_joinBranches_47 (by decide) rfl ?_
      refine xt_aload_n (j := 1) dX9_joinBranches_49 rfl rfl ?_
      obtain ⟨b10, hb, H⟩ := H
      refine xt_getR dX9_joinBranches_50 (flX9_27 rfl) ft_11_6 ho1.1 ho1.2 hb ?_
      refine xt_iload_n (j := 4) dX9_joinBranches_53 rfl rfl ?_
      refine xt_aload_n (j := 1) dX9_joinBranches_54 rfl rfl ?_
      obtain ⟨b11, hb, H⟩ := H
      refine xt_getR dX9_joinBranches_55 (flX9_80 rfl) ft_11_8 ho1.1 ho1.2 hb ?_
      refine xt_iload_n (j := 3) dX9_joinBranches_58 rfl rfl ?_
      refine xt_iload (j := 0) dX9_joinBranches_59 rfl ?_
      refine xt_callS (h2 := h) (as := [.int r9]) (st := [.int x2, .ref b11, .int x3, .ref b10]) dX9_joinBranches_61 (mlX9_85 rfl) rfl (by first | decide | (simp [Value.category]; done)) (Nat.le_refl _) H (fun r M12 HH hE => ?_)
      obtain ⟨r13, hr, H⟩ := HH hE
      subst hr
      have ho1 := ok_E ho1 hE
      show T _ _ _ _ [.int r13, .int x2, .ref b11, .int x3, .ref b10] _ _
      obtain ⟨ho14, H⟩ := H
      refine xt_callV (h2 := h) (as := [.int x2, .int r13]) (st := [.int x3, .ref b10]) dX9_joinBranches_64 (mlX9_152 rfl) rfl ho14.1 ⟨by rw [ho14.2]; rfl, by rw [ho14.2]; decide⟩ (by first | decide | (simp [Value.category]; done)) (Nat.le_refl _) H (fun r M15 HH hE => ?_)
      obtain ⟨r16, hr, H⟩ := HH hE
      subst hr
      have ho1 := ok_E ho1 hE
      show T _ _ _ _ [.int r16, .int x3, .ref b10] _ _
      obtain ⟨ho17, H⟩ := H
      obtain ⟨hi, H⟩ := H
      obtain ⟨M18, eM18⟩ : ∃ z, z = wAI M15 b10 (x3 : Int32).toNatClampNeg r16 := ⟨_, rfl⟩
      have H := H _ eM18
      refine xt_iast dX9_joinBranches_67 ho17.1 ho17.2 hi ?_
      have ho1 : ok M18 x0 11 := by rw [eM18]; exact ho1
      rw [← eM18]
      refine xt_aload_n (j := 1) dX9_joinBranches_68 rfl rfl ?_
      obtain ⟨b19, hb, H⟩ := H
      refine xt_getR dX9_joinBranches_69 (flX9_33 rfl) ft_11_0 ho1.1 ho1.2 hb ?_
      obtain ⟨ho20, H⟩ := H
      obtain ⟨b21, hb, H⟩ := H
      refine xt_getR dX9_joinBranches_72 (flX9_67 rfl) ft_10_3 ho20.1 ho20.2 hb ?_
      refine xt_iload_n (j := 4) dX9_joinBranches_75 rfl rfl ?_
      obtain ⟨ho22, H⟩ := H
      obtain ⟨hi, H⟩ := H
      refine xt_iald dX9_joinBranches_76 ho22.1 ho22.2 hi ?_
      refine xt_istore_n (lv' := [(3, .int (mAI M18 b21 (x3 : Int32).toNatClampNeg)), (5, .int r9), (0, .ref x0), (1, .int x1), (2, .int x2), (4, .int x4)]) dX9_joinBranches_77 rfl (by decide) rfl ?_
      refine xt_iinc (j := 5) (v := x4 + 1) (lv' := [(4, .int (x4 + 1)), (3, .int (mAI M18 b21 (x3 : Int32).toNatClampNeg)), (5, .int r9), (0, .ref x0), (1, .int x1), (2, .int x2)]) dX9_joinBranches_78 rfl (by rfl) (by decide) rfl ?_
      refine xt_goto (tgt := 19) dX9_joinBranches_81 (by decide) ?_
      exact xt_sub (lv' := [(0, .ref x0), (1, .int x1), (2, .int x2), (3, .int (mAI M18 b21 (x3 : Int32).toNatClampNeg)), (4, .int (x4 + 1))]) [3, 4, 5, 1, 0] rfl H
def DX9_joinBranches_0 (h : Nat) (x0 : Nat) (x1 : Int32) (M : Mem) (Q : Option Value → Mem → Prop) : Prop :=
  ok M x0 11 ∧ E h mdX9_resumed [.ref x0, .int x1] M (fun r M2 => mE M M2 → ∃ r3 : Int32, r = some (.int r3) ∧ ∃ b4 : Nat, mR M2 x0 0 = some b4 ∧ ok M2 b4 10 ∧ ∃ b6 : Nat, mR M2 b4 1 = some b6 ∧ ok M2 b6 21 ∧ vp_in x1 (mL M2 b6) ∧ T (h + 1) mdX9_joinBranches 19 [(0, .ref x0), (1, .int x1), (2, .int r3), (3, .int (mAI M2 b6 (x1 : Int32).toNatClampNeg)), (4, .int 0)] [] M2 Q)
set_option maxRecDepth 20000 in
set_option maxHeartbeats 2000000 in
theorem VX9_joinBranches_0 {h : Nat} {x0 : Nat} {x1 : Int32} {M : Mem} {Q : Option Value → Mem → Prop} (H : DX9_joinBranches_0 h x0 x1 M Q) : T (h + 1) mdX9_joinBranches 0 [(0, .ref x0), (1, .int x1)] [] M Q := by
  unfold DX9_joinBranches_0 at H
  refine xt_aload_n (j := 0) dX9_joinBranches_0 rfl rfl ?_
  refine xt_iload_n (j := 1) dX9_joinBranches_1 rfl rfl ?_
  obtain ⟨ho1, H⟩ := H
  refine xt_callV (h2 := h) (as := [.int x1]) (st := []) dX9_joinBranches_2 (mlX9_156 rfl) rfl ho1.1 ⟨by rw [ho1.2]; rfl, by rw [ho1.2]; decide⟩ (by first | decide | (simp [Value.category]; done)) (Nat.le_refl _) H (fun r M2 HH hE => ?_)
  obtain ⟨r3, hr, H⟩ := HH hE
  subst hr
  have ho1 := ok_E ho1 hE
  show T _ _ _ _ [.int r3] _ _
  refine xt_istore_n (lv' := [(2, .int r3), (0, .ref x0), (1, .int x1)]) dX9_joinBranches_5 rfl (by decide) rfl ?_
  refine xt_aload_n (j := 1) dX9_joinBranches_6 rfl rfl ?_
  obtain ⟨b4, hb, H⟩ := H
  refine xt_getR dX9_joinBranches_7 (flX9_33 rfl) ft_11_0 ho1.1 ho1.2 hb ?_
  obtain ⟨ho5, H⟩ := H
  obtain ⟨b6, hb, H⟩ := H
  refine xt_getR dX9_joinBranches_10 (flX9_55 rfl) ft_10_1 ho5.1 ho5.2 hb ?_
  refine xt_iload_n (j := 2) dX9_joinBranches_13 rfl rfl ?_
  obtain ⟨ho7, H⟩ := H
  obtain ⟨hi, H⟩ := H
  refine xt_iald dX9_joinBranches_14 ho7.1 ho7.2 hi ?_
  refine xt_istore_n (lv' := [(3, .int (mAI M2 b6 (x1 : Int32).toNatClampNeg)), (2, .int r3), (0, .ref x0), (1, .int x1)]) dX9_joinBranches_15 rfl (by decide) rfl ?_
  refine xt_iconst (v := 0) dX9_joinBranches_16 (by decide) ?_
  refine xt_istore (lv' := [(4, .int 0), (3, .int (mAI M2 b6 (x1 : Int32).toNatClampNeg)), (2, .int r3), (0, .ref x0), (1, .int x1)]) dX9_joinBranches_17 (by decide) rfl ?_
  exact xt_sub (lv' := [(0, .ref x0), (1, .int x1), (2, .int r3), (3, .int (mAI M2 b6 (x1 : Int32).toNatClampNeg)), (4, .int 0)]) [3, 4, 2, 1, 0] rfl H
theorem KX9_joinBranches {h : Nat} {x0 : Nat} {x1 : Int32} {M : Mem} {Q : Option Value → Mem → Prop} (H : DX9_joinBranches_0 h x0 x1 M Q) : E (h + 1) mdX9_joinBranches [.ref x0, .int x1] M Q := E.of (by decide) (Nat.le_of_ble_eq_true rfl) (fun _ _ _ => trivial) (VX9_joinBranches_0 H)
def DX9_joined_116 (h : Nat) (x0 : Nat) (x3 : Int32) (x4 : Int32) (M : Mem) (Q : Option Value → Mem → Prop) : Prop :=
  ok M x0 11 ∧ ∃ b2 : Nat, mR M x0 8 = some b2 ∧ ok M b2 2 ∧ E h mdX0_and [.ref b2, .int x3, .int x4] M (fun r M4 => mE M M4 → ∃ r5 : Int32, r = some (.int r5) ∧ Q (some (.int r5)) M4)
set_option maxRecDepth 20000 in
set_option maxHeartbeats 2000000 in
theorem VX9_joined_116 {h : Nat} {x0 : Nat} {x3 : Int32} {x4 : Int32} {M : Mem} {Q : Option Value → Mem → Prop} (H : DX9_joined_116 h x0 x3 x4 M Q) : T (h + 1) mdX9_joined 116 [(0, .ref x0), (3, .int x3), (4, .int x4)] [] M Q := by
  unfold DX9_joined_116 at H
  refine xt_aload_n (j := 0) dX9_joined_116 rfl rfl ?_
  obtain ⟨ho1, H⟩ := H
  obtain ⟨b2, hb, H⟩ := H
  refine xt_getR dX9_joined_117 (flX9_80 rfl) ft_11_8 ho1.1 ho1.2 hb ?_
  refine xt_iload_n (j := 1) dX9_joined_120 rfl rfl ?_
  refine xt_iload (j := 2) dX9_joined_121 rfl ?_
  obtain ⟨ho3, H⟩ := H
  refine xt_callV (h2 := h) (as := [.int x3, .int x4]) (st := []) dX9_joined_123 (mlX9_152 rfl) rfl ho3.1 ⟨by rw [ho3.2]; rfl, by rw [ho3.2]; decide⟩ (by first | decide | (simp [Value.category]; done)) (Nat.le_refl _) H (fun r M4 HH hE => ?_)
  obtain ⟨r5, hr, H⟩ := HH hE
  subst hr
  have ho1 := ok_E ho1 hE
  show T _ _ _ _ [.int r5] _ _
  exact xt_ireturn dX9_joined_126 rfl H
def DX9_joined_19 (h : Nat) (x0 : Nat) (x2 : Int32) (x3 : Int32) (x4 : Int32) (x5 : Int32) (x6 : Int32) (M : Mem) (Q : Option Value → Mem → Prop) : Prop :=
  (640 ≤ x6 → DX9_joined_116 h x0 x3 x4 M Q) ∧
  (¬ (640 ≤ x6) → (x5 = 0 → DX9_joined_116 h x0 x3 x4 M Q) ∧
  (¬ (x5 = 0) → ok M x0 11 ∧ ∃ b2 : Nat, mR M x0 7 = some b2 ∧ ok M b2 21 ∧ vp_in ((x5 * 20) + x2) (mL M b2) ∧ ∃ b4 : Nat, mR M x0 6 = some b4 ∧ ∃ b5 : Nat, mR M x0 8 = some b5 ∧ ∃ b6 : Nat, mR M x0 6 = some b6 ∧ ok M b6 21 ∧ vp_in x5 (mL M b6) ∧ ok M b5 2 ∧ E h mdX0_or [.ref b5, .int (mAI M b6 (x5 : Int32).toNatClampNeg), .int (mAI M b2 ((x5 * 20) + x2 : Int32).toNatClampNeg)] M (fun r M9 => mE M M9 → ∃ r10 : Int32, r = some (.int r10) ∧ ok M9 b4 21 ∧ vp_in x5 (mL M9 b4) ∧ ∀ M12 : Mem, M12 = wAI M9 b4 (x5 : Int32).toNatClampNeg r10 →
  ∃ b13 : Nat, mR M12 x0 8 = some b13 ∧ ok M12 b13 2 ∧ E h mdX0_or [.ref b13, .int x3, .int (mAI M b2 ((x5 * 20) + x2 : Int32).toNatClampNeg)] M12 (fun r M15 => mE M12 M15 → ∃ r16 : Int32, r = some (.int r16) ∧ ∃ b17 : Nat, mR M15 x0 8 = some b17 ∧ ∃ b18 : Nat, mR M15 x0 6 = some b18 ∧ ok M15 b18 21 ∧ vp_in x5 (mL M15 b18) ∧ ok M15 b17 2 ∧ E h mdX0_and [.ref b17, .int x4, .int (mAI M15 b18 (x5 : Int32).toNatClampNeg)] M15 (fun r M21 => mE M15 M21 → ∃ r22 : Int32, r = some (.int r22) ∧ ∃ b23 : Nat, mR M21 x0 0 = some b23 ∧ ok M21 b23 10 ∧ ∃ b25 : Nat, mR M21 b23 3 = some b25 ∧ ok M21 b25 21 ∧ vp_in x5 (mL M21 b25) ∧ T (h + 1) mdX9_joined 19 [(0, .ref x0), (2, .int x2), (3, .int r16), (4, .int r22), (5, .int (mAI M21 b25 (x5 : Int32).toNatClampNeg)), (6, .int (x6 + 1))] [] M21 Q)))))
set_option maxRecDepth 20000 in
set_option maxHeartbeats 2000000 in
theorem VX9_joined_19 {h : Nat} {x0 : Nat} {x2 : Int32} {x3 : Int32} {x4 : Int32} {x5 : Int32} {x6 : Int32} {M : Mem} {Q : Option Value → Mem → Prop} (H : DX9_joined_19 h x0 x2 x3 x4 x5 x6 M Q) : T (h + 1) mdX9_joined 19 [(0, .ref x0), (2, .int x2), (3, .int x3), (4, .int x4), (5, .int x5), (6, .int x6)] [] M Q := by
  unfold DX9_joined_19 at H
  refine xt_iload (j := 5) dX9_joined_19 rfl ?_
  refine xt_sipush (v := 640) dX9_joined_21 (by decide) ?_
  refine xt_icmp_ge (tgt := 116) dX9_joined_24 (by decide) (fun hc => ?_) (fun hc => ?_)
  · have H := H.1 hc
    exact xt_sub [0, 2, 3] rfl (VX9_joined_116 H)
  · have H := H.2 hc
    refine xt_iload (j := 4) dX9_joined_27 rfl ?_
    refine xt_if_eq (tgt := 116) dX9_joined_29 (by decide) (fun hc => ?_) (fun hc => ?_)
    · have H := H.1 hc
      exact xt_sub [0, 2, 3] rfl (VX9_joined_116 H)
    · have H := H.2 hc
      refine xt_aload_n (j := 0) dX9_joined_32 rfl rfl ?_
      obtain ⟨ho1, H⟩ := H
      obtain ⟨b2, hb, H⟩ := H
      refine xt_getR dX9_joined_33 (flX9_30 rfl) ft_11_7 ho1.1 ho1.2 hb ?_
      refine xt_iload (j := 4) dX9_joined_36 rfl ?_
      refine xt_bipush (v := 20) dX9_joined_38 (by decide) ?_
      refine xt_imul dX9_joined_40 ?_
      refine xt_iload_n (j := 1) dX9_joined_41 rfl rfl ?_
      refine xt_iadd dX9_joined_42 ?_
      obtain ⟨ho3, H⟩ := H
      obtain ⟨hi, H⟩ := H
      refine xt_iald dX9_joined_43 ho3.1 ho3.2 hi ?_
      refine xt_istore (lv' := [(7, .int (mAI M b2 ((x5 * 20) + x2 : Int32).toNatClampNeg)), (0, .ref x0), (2, .int x2), (3, .int x3), (4, .int x4), (5, .int x5), (6, .int x6)]) dX9_joined_44 (by decide) rfl ?_
      refine xt_aload_n (j := 1) dX9_joined_46 rfl rfl ?_
      obtain ⟨b4, hb, H⟩ := H
      refine xt_getR dX9_joined_47 (flX9_27 rfl) ft_11_6 ho1.1 ho1.2 hb ?_
      refine xt_iload (j := 5) dX9_joined_50 rfl ?_
      refine xt_aload_n (j := 1) dX9_joined_52 rfl rfl ?_
      obtain ⟨b5, hb, H⟩ := H
      refine xt_getR dX9_joined_53 (flX9_80 rfl) ft_11_8 ho1.1 ho1.2 hb ?_
      refine xt_aload_n (j := 1) dX9_joined_56 rfl rfl ?_
      obtain ⟨b6, hb, H⟩ := H
      refine xt_getR dX9_joined_57 (flX9_27 rfl) ft_11_6 ho1.1 ho1.2 hb ?_
      refine xt_iload (j := 5) dX9_joined_60 rfl ?_
      obtain ⟨ho7, H⟩ := H
      obtain ⟨hi, H⟩ := H
      refine xt_iald dX9_joined_62 ho7.1 ho7.2 hi ?_
      refine xt_iload (j := 0) dX9_joined_63 rfl ?_
      obtain ⟨ho8, H⟩ := H
      refine xt_callV (h2 := h) (as := [.int (mAI M b6 (x5 : Int32).toNatClampNeg), .int (mAI M b2 ((x5 * 20) + x2 : Int32).toNatClampNeg)]) (st := [.int x5, .ref b4]) dX9_joined_65 (mlX9_159 rfl) rfl ho8.1 ⟨by rw [ho8.2]; rfl, by rw [ho8.2]; decide⟩ (by first | decide | (simp [Value.category]; done)) (Nat.le_refl _) H (fun r M9 HH hE => ?_)
      obtain ⟨r10, hr, H⟩ := HH hE
      subst hr
      have ho1 := ok_E ho1 hE
      show T _ _ _ _ [.int r10, .int x5, .ref b4] _ _
      obtain ⟨ho11, H⟩ := H
      obtain ⟨hi, H⟩ := H
      obtain ⟨M12, eM12⟩ : ∃ z, z = wAI M9 b4 (x5 : Int32).toNatClampNeg r10 := ⟨_, rfl⟩
      have H := H _ eM12
      refine xt_iast dX9_joined_68 ho11.1 ho11.2 hi ?_
      have ho1 : ok M12 x0 11 := by rw [eM12]; exact ho1
      rw [← eM12]
      refine xt_aload_n (j := 1) dX9_joined_69 rfl rfl ?_
      obtain ⟨b13, hb, H⟩ := H
      refine xt_getR dX9_joined_70 (flX9_80 rfl) ft_11_8 ho1.1 ho1.2 hb ?_
      refine xt_iload_n (j := 3) dX9_joined_73 rfl rfl ?_
      refine xt_iload (j := 0) dX9_joined_74 rfl ?_
      obtain ⟨ho14, H⟩ := H
      refine xt_callV (h2 := h) (as := [.int x3, .int (mAI M b2 ((x5 * 20) + x2 : Int32).toNatClampNeg)]) (st := []) dX9_joined_76 (mlX9_159 rfl) rfl ho14.1 ⟨by rw [ho14.2]; rfl, by rw [ho14.2]; decide⟩ (by first | decide | (simp [Value.category]; done)) (Nat.le_refl _) H (fun r M15 HH hE => ?_)
      obtain ⟨r16, hr, H⟩ := HH hE
      subst hr
      have ho1 := ok_E ho1 hE
      show T _ _ _ _ [.int r16] _ _
      refine xt_istore_n (lv' := [(3, .int r16), (7, .int (mAI M b2 ((x5 * 20) + x2 : Int32).toNatClampNeg)), (0, .ref x0), (2, .int x2), (4, .int x4), (5, .int x5), (6, .int x6)]) dX9_joined_79 rfl (by decide) rfl ?_
      refine xt_aload_n (j := 2) dX9_joined_80 rfl rfl ?_
      obtain ⟨b17, hb, H⟩ := H
      refine xt_getR dX9_joined_81 (flX9_80 rfl) ft_11_8 ho1.1 ho1.2 hb ?_
      refine xt_iload (j := 4) dX9_joined_84 rfl ?_
      refine xt_aload_n (j := 2) dX9_joined_86 rfl rfl ?_
      obtain ⟨b18, hb, H⟩ := H
      refine xt_getR dX9_joined_87 (flX9_27 rfl) ft_11_6 ho1.1 ho1.2 hb ?_
      refine xt_iload (j := 5) dX9_joined_90 rfl ?_
      obtain ⟨ho19, H⟩ := H
      obtain ⟨hi, H⟩ := H
      refine xt_iald dX9_joined_92 ho19.1 ho19.2 hi ?_
      obtain ⟨ho20, H⟩ := H
      refine xt_callV (h2 := h) (as := [.int x4, .int (mAI M15 b18 (x5 : Int32).toNatClampNeg)]) (st := []) dX9_joined_93 (mlX9_152 rfl) rfl ho20.1 ⟨by rw [ho20.2]; rfl, by rw [ho20.2]; decide⟩ (by first | decide | (simp [Value.category]; done)) (Nat.le_refl _) H (fun r M21 HH hE => ?_)
      obtain ⟨r22, hr, H⟩ := HH hE
      subst hr
      have ho1 := ok_E ho1 hE
      show T _ _ _ _ [.int r22] _ _
      refine xt_istore (lv' := [(4, .int r22), (3, .int r16), (7, .int (mAI M b2 ((x5 * 20) + x2 : Int32).toNatClampNeg)), (0, .ref x0), (2, .int x2), (5, .int x5), (6, .int x6)]) dX9_joined_96 (by decide) rfl ?_
      refine xt_aload_n (j := 3) dX9_joined_98 rfl rfl ?_
      obtain ⟨b23, hb, H⟩ := H
      refine xt_getR dX9_joined_99 (flX9_33 rfl) ft_11_0 ho1.1 ho1.2 hb ?_
      obtain ⟨ho24, H⟩ := H
      obtain ⟨b25, hb, H⟩ := H
      refine xt_getR dX9_joined_102 (flX9_67 rfl) ft_10_3 ho24.1 ho24.2 hb ?_
      refine xt_iload (j := 5) dX9_joined_105 rfl ?_
      obtain ⟨ho26, H⟩ := H
      obtain ⟨hi, H⟩ := H
      refine xt_iald dX9_joined_107 ho26.1 ho26.2 hi ?_
      refine xt_istore (lv' := [(5, .int (mAI M21 b25 (x5 : Int32).toNatClampNeg)), (4, .int r22), (3, .int r16), (7, .int (mAI M b2 ((x5 * 20) + x2 : Int32).toNatClampNeg)), (0, .ref x0), (2, .int x2), (6, .int x6)]) dX9_joined_108 (by decide) rfl ?_
      refine xt_iinc (j := 6) (v := x6 + 1) (lv' := [(6, .int (x6 + 1)), (5, .int (mAI M21 b25 (x5 : Int32).toNatClampNeg)), (4, .int r22), (3, .int r16), (7, .int (mAI M b2 ((x5 * 20) + x2 : Int32).toNatClampNeg)), (0, .ref x0), (2, .int x2)]) dX9_joined_110 rfl (by rfl) (by decide) rfl ?_
      refine xt_goto (tgt := 19) dX9_joined_113 (by decide) ?_
      exact xt_sub (lv' := [(0, .ref x0), (2, .int x2), (3, .int r16), (4, .int r22), (5, .int (mAI M21 b25 (x5 : Int32).toNatClampNeg)), (6, .int (x6 + 1))]) [5, 6, 3, 2, 1, 0] rfl H
def DX9_joined_0 (h : Nat) (x0 : Nat) (x1 : Int32) (x2 : Int32) (M : Mem) (Q : Option Value → Mem → Prop) : Prop :=
  ok M x0 11 ∧ ∃ b2 : Nat, mR M x0 0 = some b2 ∧ ok M b2 10 ∧ ∃ b4 : Nat, mR M b2 1 = some b4 ∧ ok M b4 21 ∧ vp_in x1 (mL M b4) ∧ T (h + 1) mdX9_joined 19 [(0, .ref x0), (2, .int x2), (3, .int 0), (4, .int 1), (5, .int (mAI M b4 (x1 : Int32).toNatClampNeg)), (6, .int 0)] [] M Q
set_option maxRecDepth 20000 in
set_option maxHeartbeats 2000000 in
theorem VX9_joined_0 {h : Nat} {x0 : Nat} {x1 : Int32} {x2 : Int32} {M : Mem} {Q : Option Value → Mem → Prop} (H : DX9_joined_0 h x0 x1 x2 M Q) : T (h + 1) mdX9_joined 0 [(0, .ref x0), (1, .int x1), (2, .int x2)] [] M Q := by
  unfold DX9_joined_0 at H
  refine xt_iconst (v := 0) dX9_joined_0 (by decide) ?_
  refine xt_istore_n (lv' := [(3, .int 0), (0, .ref x0), (1, .int x1), (2, .int x2)]) dX9_joined_1 rfl (by decide) rfl ?_
  refine xt_iconst (v := 1) dX9_joined_2 (by decide) ?_
  refine xt_istore (lv' := [(4, .int 1), (3, .int 0), (0, .ref x0), (1, .int x1), (2, .int x2)]) dX9_joined_3 (by decide) rfl ?_
  refine xt_aload_n (j := 2) dX9_joined_5 rfl rfl ?_
  obtain ⟨ho1, H⟩ := H
  obtain ⟨b2, hb, H⟩ := H
  refine xt_getR dX9_joined_6 (flX9_33 rfl) ft_11_0 ho1.1 ho1.2 hb ?_
  obtain ⟨ho3, H⟩ := H
  obtain ⟨b4, hb, H⟩ := H
  refine xt_getR dX9_joined_9 (flX9_55 rfl) ft_10_1 ho3.1 ho3.2 hb ?_
  refine xt_iload_n (j := 3) dX9_joined_12 rfl rfl ?_
  obtain ⟨ho5, H⟩ := H
  obtain ⟨hi, H⟩ := H
  refine xt_iald dX9_joined_13 ho5.1 ho5.2 hi ?_
  refine xt_istore (lv' := [(5, .int (mAI M b4 (x1 : Int32).toNatClampNeg)), (4, .int 1), (3, .int 0), (0, .ref x0), (1, .int x1), (2, .int x2)]) dX9_joined_14 (by decide) rfl ?_
  refine xt_iconst (v := 0) dX9_joined_16 (by decide) ?_
  refine xt_istore (lv' := [(6, .int 0), (5, .int (mAI M b4 (x1 : Int32).toNatClampNeg)), (4, .int 1), (3, .int 0), (0, .ref x0), (1, .int x1), (2, .int x2)]) dX9_joined_17 (by decide) rfl ?_
  exact xt_sub (lv' := [(0, .ref x0), (2, .int x2), (3, .int 0), (4, .int 1), (5, .int (mAI M b4 (x1 : Int32).toNatClampNeg)), (6, .int 0)]) [4, 6, 3, 2, 1, 0] rfl H
theorem KX9_joined {h : Nat} {x0 : Nat} {x1 : Int32} {x2 : Int32} {M : Mem} {Q : Option Value → Mem → Prop} (H : DX9_joined_0 h x0 x1 x2 M Q) : E (h + 1) mdX9_joined [.ref x0, .int x1, .int x2] M Q := E.of (by decide) (Nat.le_of_ble_eq_true rfl) (fun _ _ _ => trivial) (VX9_joined_0 H)
def DX10_init_0 (h : Nat) (x0 : Nat) (M : Mem) (Q : Option Value → Mem → Prop) : Prop :=
  ¬ (800 : Int32) < 0 ∧ ((800 : Int32).toNatClampNeg ≤ 100000000) ∧ ∀ (q2 : Nat) (M1 : Mem), q2 = mN M → M1 = nwA M 20 ((800 : Int32).toNatClampNeg) →
  ok M1 x0 12 ∧ ∀ M4 : Mem, M4 = wR M1 x0 0 (some q2) →
  ∀ (q6 : Nat) (M5 : Mem), q6 = mN M4 → M5 = nwO M4 1 3 →
  E h mdJx4a65c_init_da8c8 [.ref q6] M5 (fun r M7 => mE M5 M7 → r = none ∧ ∀ M8 : Mem, M8 = wR M7 x0 2 (some q6) →
  ∀ (q10 : Nat) (M9 : Mem), q10 = mN M8 → M9 = nwO M8 1 3 →
  E h mdJx4a65c_init_da8c8 [.ref q10] M9 (fun r M11 => mE M9 M11 → r = none ∧ ∀ M12 : Mem, M12 = wR M11 x0 3 (some q10) →
  ∀ (q14 : Nat) (M13 : Mem), q14 = mN M12 → M13 = nwO M12 10 11 →
  E h mdX8_init [.ref q14] M13 (fun r M15 => mE M13 M15 → r = none ∧ ∀ (q17 : Nat) (M16 : Mem), q17 = mN M15 → M16 = nwO M15 6 8 →
  ∃ b18 : Nat, mR M16 x0 0 = some b18 ∧ E h mdX4_init [.ref q17, .ref b18, .ref q14] M16 (fun r M19 => mE M16 M19 → r = none ∧ ∀ M20 : Mem, M20 = wR M19 x0 4 (some q17) →
  ∀ (q22 : Nat) (M21 : Mem), q22 = mN M20 → M21 = nwO M20 11 9 →
  E h mdX9_init [.ref q22, .ref q14] M21 (fun r M23 => mE M21 M23 → r = none ∧ ∀ M24 : Mem, M24 = wR M23 x0 5 (some q22) →
  ∀ M25 : Mem, M25 = wI M24 x0 7 (-1) →
  ∀ M26 : Mem, M26 = wI M25 x0 8 (-1) →
  Q none M26)))))
set_option maxRecDepth 20000 in
set_option maxHeartbeats 2000000 in
theorem VX10_init_0 {h : Nat} {x0 : Nat} {M : Mem} {Q : Option Value → Mem → Prop} (H : DX10_init_0 h x0 M Q) : T (h + 1) mdX10_init 0 [(0, .ref x0)] [] M Q := by
  unfold DX10_init_0 at H
  refine xt_aload_n (j := 0) dX10_init_0 rfl rfl ?_
  refine xt_objInit dX10_init_1 (oiX10_1 rfl) (by decide) (Nat.succ_le_succ (Nat.zero_le _)) ?_
  refine xt_aload_n (j := 0) dX10_init_4 rfl rfl ?_
  refine xt_sipush (v := 800) dX10_init_5 (by decide) ?_
  obtain ⟨hn, hy, H⟩ := H
  obtain ⟨M1, eM1⟩ : ∃ z, z = nwA M 20 ((800 : Int32).toNatClampNeg) := ⟨_, rfl⟩
  obtain ⟨q2, eq2⟩ : ∃ z, z = mN M := ⟨_, rfl⟩
  have H := H _ _ eq2 eM1
  refine xt_newB dX10_init_8 ac_B hn rfl hy ?_
  rw [← eM1, ← eq2]
  obtain ⟨ho3, H⟩ := H
  obtain ⟨M4, eM4⟩ : ∃ z, z = wR M1 x0 0 (some q2) := ⟨_, rfl⟩
  have H := H _ eM4
  refine xt_putR dX10_init_10 (flX10_9 rfl) ft_12_0 rfl ho3.1 ho3.2 ?_
  have ho3 : ok M4 x0 12 := by rw [eM4]; exact ho3
  rw [← eM4]
  refine xt_aload_n (j := 0) dX10_init_13 rfl rfl ?_
  obtain ⟨M5, eM5⟩ : ∃ z, z = nwO M4 1 3 := ⟨_, rfl⟩
  obtain ⟨q6, eq6⟩ : ∃ z, z = mN M4 := ⟨_, rfl⟩
  have H := H _ _ eq6 eM5
  refine xt_new dX10_init_14 (nlX10_13 rfl) ?_
  show T _ _ _ _ (.ref (mN M4) :: [.ref x0]) (nwO M4 1 3) _
  have ho3 : ok M5 x0 12 := by rw [eM5]; exact ok_nwO ho3
  rw [← eM5, ← eq6]
  refine xt_dup dX10_init_17 rfl ?_
  refine xt_callI (h2 := h) (as := []) (st := [.ref q6, .ref x0]) dX10_init_18 (mlX10_15 rfl) rfl (by first | decide | (simp [Value.category]; done)) (Nat.le_refl _) H (fun r M7 HH hE => ?_)
  obtain ⟨hr, H⟩ := HH hE
  subst hr
  have ho3 := ok_E ho3 hE
  show T _ _ _ _ [.ref q6, .ref x0] _ _
  obtain ⟨M8, eM8⟩ : ∃ z, z = wR M7 x0 2 (some q6) := ⟨_, rfl⟩
  have H := H _ eM8
  refine xt_putR dX10_init_21 (flX10_16 rfl) ft_12_2 rfl ho3.1 ho3.2 ?_
  have ho3 : ok M8 x0 12 := by rw [eM8]; exact ho3
  rw [← eM8]
  refine xt_aload_n (j := 0) dX10_init_24 rfl rfl ?_
  obtain ⟨M9, eM9⟩ : ∃ z, z = nwO M8 1 3 := ⟨_, rfl⟩
  obtain ⟨q10, eq10⟩ : ∃ z, z = mN M8 := ⟨_, rfl⟩
  have H := H _ _ eq10 eM9
  refine xt_new dX10_init_25 (nlX10_13 rfl) ?_
  show T _ _ _ _ (.ref (mN M8) :: [.ref x0]) (nwO M8 1 3) _
  have ho3 : ok M9 x0 12 := by rw [eM9]; exact ok_nwO ho3
  rw [← eM9, ← eq10]
  refine xt_dup dX10_init_28 rfl ?_
  refine xt_callI (h2 := h) (as := []) (st := [.ref q10, .ref x0]) dX10_init_29 (mlX10_15 rfl) rfl (by first | decide | (simp [Value.category]; done)) (Nat.le_refl _) H (fun r M11 HH hE => ?_)
  obtain ⟨hr, H⟩ := HH hE
  subst hr
  have ho3 := ok_E ho3 hE
  show T _ _ _ _ [.ref q10, .ref x0] _ _
  obtain ⟨M12, eM12⟩ : ∃ z, z = wR M11 x0 3 (some q10) := ⟨_, rfl⟩
  have H := H _ eM12
  refine xt_putR dX10_init_32 (flX10_20 rfl) ft_12_3 rfl ho3.1 ho3.2 ?_
  have ho3 : ok M12 x0 12 := by rw [eM12]; exact ho3
  rw [← eM12]
  obtain ⟨M13, eM13⟩ : ∃ z, z = nwO M12 10 11 := ⟨_, rfl⟩
  obtain ⟨q14, eq14⟩ : ∃ z, z = mN M12 := ⟨_, rfl⟩
  have H := H _ _ eq14 eM13
  refine xt_new dX10_init_35 (nlX10_23 rfl) ?_
  show T _ _ _ _ (.ref (mN M12) :: []) (nwO M12 10 11) _
  have ho3 : ok M13 x0 12 := by rw [eM13]; exact ok_nwO ho3
  rw [← eM13, ← eq14]
  refine xt_dup dX10_init_38 rfl ?_
  refine xt_callN (h2 := h) (as := []) (st := [.ref q14]) dX10_init_39 (mlX10_25 rfl) rfl (by first | decide | (simp [Value.category]; done)) (Nat.le_refl _) H (fun r M15 HH hE => ?_)
  obtain ⟨hr, H⟩ := HH hE
  subst hr
  have ho3 := ok_E ho3 hE
  show T _ _ _ _ [.ref q14] _ _
  refine xt_astore_n (lv' := [(1, .ref q14), (0, .ref x0)]) dX10_init_42 rfl (by decide) rfl ?_
  refine xt_aload_n (j := 1) dX10_init_43 rfl rfl ?_
  obtain ⟨M16, eM16⟩ : ∃ z, z = nwO M15 6 8 := ⟨_, rfl⟩
  obtain ⟨q17, eq17⟩ : ∃ z, z = mN M15 := ⟨_, rfl⟩
  have H := H _ _ eq17 eM16
  refine xt_new dX10_init_44 (nlX10_26 rfl) ?_
  show T _ _ _ _ (.ref (mN M15) :: [.ref x0]) (nwO M15 6 8) _
  have ho3 : ok M16 x0 12 := by rw [eM16]; exact ok_nwO ho3
  rw [← eM16, ← eq17]
  refine xt_dup dX10_init_47 rfl ?_
  refine xt_aload_n (j := 1) dX10_init_48 rfl rfl ?_
  obtain ⟨b18, hb, H⟩ := H
  refine xt_getR dX10_init_49 (flX10_9 rfl) ft_12_0 ho3.1 ho3.2 hb ?_
  refine xt_aload_n (j := 0) dX10_init_52 rfl rfl ?_
  refine xt_callI (h2 := h) (as := [.ref b18, .ref q14]) (st := [.ref q17, .ref x0]) dX10_init_53 (mlX10_28 rfl) rfl (by first | decide | (simp [Value.category]; done)) (Nat.le_refl _) H (fun r M19 HH hE => ?_)
  obtain ⟨hr, H⟩ := HH hE
  subst hr
  have ho3 := ok_E ho3 hE
  show T _ _ _ _ [.ref q17, .ref x0] _ _
  obtain ⟨M20, eM20⟩ : ∃ z, z = wR M19 x0 4 (some q17) := ⟨_, rfl⟩
  have H := H _ eM20
  refine xt_putR dX10_init_56 (flX10_31 rfl) ft_12_4 rfl ho3.1 ho3.2 ?_
  have ho3 : ok M20 x0 12 := by rw [eM20]; exact ho3
  rw [← eM20]
  refine xt_aload_n (j := 1) dX10_init_59 rfl rfl ?_
  obtain ⟨M21, eM21⟩ : ∃ z, z = nwO M20 11 9 := ⟨_, rfl⟩
  obtain ⟨q22, eq22⟩ : ∃ z, z = mN M20 := ⟨_, rfl⟩
  have H := H _ _ eq22 eM21
  refine xt_new dX10_init_60 (nlX10_35 rfl) ?_
  show T _ _ _ _ (.ref (mN M20) :: [.ref x0]) (nwO M20 11 9) _
  have ho3 : ok M21 x0 12 := by rw [eM21]; exact ok_nwO ho3
  rw [← eM21, ← eq22]
  refine xt_dup dX10_init_63 rfl ?_
  refine xt_aload_n (j := 0) dX10_init_64 rfl rfl ?_
  refine xt_callI (h2 := h) (as := [.ref q14]) (st := [.ref q22, .ref x0]) dX10_init_65 (mlX10_37 rfl) rfl (by first | decide | (simp [Value.category]; done)) (Nat.le_refl _) H (fun r M23 HH hE => ?_)
  obtain ⟨hr, H⟩ := HH hE
  subst hr
  have ho3 := ok_E ho3 hE
  show T _ _ _ _ [.ref q22, .ref x0] _ _
  obtain ⟨M24, eM24⟩ : ∃ z, z = wR M23 x0 5 (some q22) := ⟨_, rfl⟩
  have H := H _ eM24
  refine xt_putR dX10_init_68 (flX10_40 rfl) ft_12_5 rfl ho3.1 ho3.2 ?_
  have ho3 : ok M24 x0 12 := by rw [eM24]; exact ho3
  rw [← eM24]
  refine xt_aload_n (j := 1) dX10_init_71 rfl rfl ?_
  refine xt_iconst (v := -1) dX10_init_72 (by decide) ?_
  obtain ⟨M25, eM25⟩ : ∃ z, z = wI M24 x0 7 (-1) := ⟨_, rfl⟩
  have H := H _ eM25
  refine xt_putI dX10_init_73 (flX10_44 rfl) ty_12_7 rfl ho3.1 ho3.2 ?_
  have ho3 : ok M25 x0 12 := by rw [eM25]; exact ho3
  rw [← eM25]
  refine xt_aload_n (j := 1) dX10_init_76 rfl rfl ?_
  refine xt_iconst (v := -1) dX10_init_77 (by decide) ?_
  obtain ⟨M26, eM26⟩ : ∃ z, z = wI M25 x0 8 (-1) := ⟨_, rfl⟩
  have H := H _ eM26
  refine xt_putI dX10_init_78 (flX10_48 rfl) ty_12_8 rfl ho3.1 ho3.2 ?_
  have ho3 : ok M26 x0 12 := by rw [eM26]; exact ho3
  rw [← eM26]
  exact xt_return dX10_init_81 rfl H
theorem KX10_init {h : Nat} {x0 : Nat} {M : Mem} {Q : Option Value → Mem → Prop} (H : DX10_init_0 h x0 M Q) : E (h + 1) mdX10_init [.ref x0] M Q := E.of (by decide) (Nat.le_of_ble_eq_true rfl) (fun _ _ _ => trivial) (VX10_init_0 H)
def DX10_feed_0 (h : Nat) (x0 : Nat) (x1 : Int32) (x2 : Int32) (x3 : Int32) (x4 : Int32) (x5 : Int32) (M : Mem) (Q : Option Value → Mem → Prop) : Prop :=
  ok M x0 12 ∧ (((mI M x0 1) + 20) ≤ 800 → E h mdX10_append [.ref x0, .int x1] M (fun r M2 => mE M M2 → r = none ∧ E h mdX10_append [.ref x0, .int x2] M2 (fun r M3 => mE M2 M3 → r = none ∧ E h mdX10_append [.ref x0, .int x3] M3 (fun r M4 => mE M3 M4 → r = none ∧ E h mdX10_append [.ref x0, .int x4] M4 (fun r M5 => mE M4 M5 → r = none ∧ E h mdX10_append [.ref x0, .int x5] M5 (fun r M6 => mE M5 M6 → r = none ∧ Q (some (.int (mI M6 x0 1))) M6)))))) ∧
  (¬ (((mI M x0 1) + 20) ≤ 800) → Q (some (.int (-3))) M)
set_option maxRecDepth 20000 in
set_option maxHeartbeats 2000000 in
theorem VX10_feed_0 {h : Nat} {x0 : Nat} {x1 : Int32} {x2 : Int32} {x3 : Int32} {x4 : Int32} {x5 : Int32} {M : Mem} {Q : Option Value → Mem → Prop} (H : DX10_feed_0 h x0 x1 x2 x3 x4 x5 M Q) : T (h + 1) mdX10_feed 0 [(0, .ref x0), (1, .int x1), (2, .int x2), (3, .int x3), (4, .int x4), (5, .int x5)] [] M Q := by
  unfold DX10_feed_0 at H
  refine xt_aload_n (j := 0) dX10_feed_0 rfl rfl ?_
  obtain ⟨ho1, H⟩ := H
  refine xt_getI dX10_feed_1 (flX10_51 rfl) ft_12_1 ho1.1 ho1.2 ?_
  refine xt_bipush (v := 20) dX10_feed_4 (by decide) ?_
  refine xt_iadd dX10_feed_6 ?_
  refine xt_sipush (v := 800) dX10_feed_7 (by decide) ?_
  refine xt_icmp_le (tgt := 16) dX10_feed_10 (by decide) (fun hc => ?_) (fun hc => ?_)
  · have H := H.1 hc
    refine xt_aload_n (j := 0) dX10_feed_16 rfl rfl ?_
    refine xt_iload_n (j := 1) dX10_feed_17 rfl rfl ?_
    refine xt_callV (h2 := h) (as := [.int x1]) (st := []) dX10_feed_18 (mlX10_54 rfl) rfl ho1.1 ⟨by rw [ho1.2]; rfl, by rw [ho1.2]; decide⟩ (by first | decide | (simp [Value.category]; done)) (Nat.le_refl _) H (fun r M2 HH hE => ?_)
    obtain ⟨hr, H⟩ := HH hE
    subst hr
    have ho1 := ok_E ho1 hE
    show T _ _ _ _ [] _ _
    refine xt_aload_n (j := 0) dX10_feed_21 rfl rfl ?_
    refine xt_iload_n (j := 2) dX10_feed_22 rfl rfl ?_
    refine xt_callV (h2 := h) (as := [.int x2]) (st := []) dX10_feed_23 (mlX10_54 rfl) rfl ho1.1 ⟨by rw [ho1.2]; rfl, by rw [ho1.2]; decide⟩ (by first | decide | (simp [Value.category]; done)) (Nat.le_refl _) H (fun r M3 HH hE => ?_)
    obtain ⟨hr, H⟩ := HH hE
    subst hr
    have ho1 := ok_E ho1 hE
    show T _ _ _ _ [] _ _
    refine xt_aload_n (j := 0) dX10_feed_26 rfl rfl ?_
    refine xt_iload_n (j := 3) dX10_feed_27 rfl rfl ?_
    refine xt_callV (h2 := h) (as := [.int x3]) (st := []) dX10_feed_28 (mlX10_54 rfl) rfl ho1.1 ⟨by rw [ho1.2]; rfl, by rw [ho1.2]; decide⟩ (by first | decide | (simp [Value.category]; done)) (Nat.le_refl _) H (fun r M4 HH hE => ?_)
    obtain ⟨hr, H⟩ := HH hE
    subst hr
    have ho1 := ok_E ho1 hE
    show T _ _ _ _ [] _ _
    refine xt_aload_n (j := 0) dX10_feed_31 rfl rfl ?_
    refine xt_iload (j := 4) dX10_feed_32 rfl ?_
    refine xt_callV (h2 := h) (as := [.int x4]) (st := []) dX10_feed_34 (mlX10_54 rfl) rfl ho1.1 ⟨by rw [ho1.2]; rfl, by rw [ho1.2]; decide⟩ (by first | decide | (simp [Value.category]; done)) (Nat.le_refl _) H (fun r M5 HH hE => ?_)
    obtain ⟨hr, H⟩ := HH hE
    subst hr
    have ho1 := ok_E ho1 hE
    show T _ _ _ _ [] _ _
    refine xt_aload_n (j := 0) dX10_feed_37 rfl rfl ?_
    refine xt_iload (j := 5) dX10_feed_38 rfl ?_
    refine xt_callV (h2 := h) (as := [.int x5]) (st := []) dX10_feed_40 (mlX10_54 rfl) rfl ho1.1 ⟨by rw [ho1.2]; rfl, by rw [ho1.2]; decide⟩ (by first | decide | (simp [Value.category]; done)) (Nat.le_refl _) H (fun r M6 HH hE => ?_)
    obtain ⟨hr, H⟩ := HH hE
    subst hr
    have ho1 := ok_E ho1 hE
    show T _ _ _ _ [] _ _
    refine xt_aload_n (j := 0) dX10_feed_43 rfl rfl ?_
    refine xt_getI dX10_feed_44 (flX10_51 rfl) ft_12_1 ho1.1 ho1.2 ?_
    exact xt_ireturn dX10_feed_47 rfl H
  · have H := H.2 hc
    refine xt_bipush (v := -3) dX10_feed_13 (by decide) ?_
    exact xt_ireturn dX10_feed_15 rfl H
theorem KX10_feed {h : Nat} {x0 : Nat} {x1 : Int32} {x2 : Int32} {x3 : Int32} {x4 : Int32} {x5 : Int32} {M : Mem} {Q : Option Value → Mem → Prop} (H : DX10_feed_0 h x0 x1 x2 x3 x4 x5 M Q) : E (h + 1) mdX10_feed [.ref x0, .int x1, .int x2, .int x3, .int x4, .int x5] M Q := E.of (by decide) (Nat.le_of_ble_eq_true rfl) (fun _ _ _ => trivial) (VX10_feed_0 H)
def DX10_append_48 (h : Nat) (M : Mem) (Q : Option Value → Mem → Prop) : Prop :=
  Q none M
set_option maxRecDepth 20000 in
set_option maxHeartbeats 2000000 in
theorem VX10_append_48 {h : Nat} {M : Mem} {Q : Option Value → Mem → Prop} (H : DX10_append_48 h  M Q) : T (h + 1) mdX10_append 48 [] [] M Q := by
  unfold DX10_append_48 at H
  exact xt_return dX10_append_48 rfl H
def DX10_append_3 (h : Nat) (x0 : Nat) (x1 : Int32) (x2 : Int32) (M : Mem) (Q : Option Value → Mem → Prop) : Prop :=
  (x2 < 0 → DX10_append_48 h  M Q) ∧
  (¬ (x2 < 0) → ok M x0 12 ∧ ∃ b2 : Nat, mR M x0 0 = some b2 ∧ ok M b2 20 ∧ ((Int32.ofNat (mL M b2)) ≤ (mI M x0 1) → DX10_append_48 h  M Q) ∧
  (¬ ((Int32.ofNat (mL M b2)) ≤ (mI M x0 1)) → ∃ b4 : Nat, mR M x0 0 = some b4 ∧ ok M b4 20 ∧ vp_in (mI M x0 1) (mL M b4) ∧ ∀ M6 : Mem, M6 = wAI M b4 (mI M x0 1 : Int32).toNatClampNeg (vp_nar .byte ((((x1 : Int32).toUInt32 >>> ((x2 : Int32).toUInt32 &&& Int32.toUInt32 31)).toInt32 : Int32).toInt8.toInt32)) →
  ∀ M7 : Mem, M7 = wI M6 x0 1 ((mI M6 x0 1) + 1) →
  T (h + 1) mdX10_append 3 [(0, .ref x0), (1, .int x1), (2, .int (x2 + (-8)))] [] M7 Q))
set_option maxRecDepth 20000 in
set_option maxHeartbeats 2000000 in
theorem VX10_append_3 {h : Nat} {x0 : Nat} {x1 : Int32} {x2 : Int32} {M : Mem} {Q : Option Value → Mem → Prop} (H : DX10_append_3 h x0 x1 x2 M Q) : T (h + 1) mdX10_append 3 [(0, .ref x0), (1, .int x1), (2, .int x2)] [] M Q := by
  unfold DX10_append_3 at H
  refine xt_iload_n (j := 2) dX10_append_3 rfl rfl ?_
  refine xt_if_lt (tgt := 48) dX10_append_4 (by decide) (fun hc => ?_) (fun hc => ?_)
  · have H := H.1 hc
    exact xt_sub [] rfl (VX10_append_48 H)
  · have H := H.2 hc
    refine xt_aload_n (j := 0) dX10_append_7 rfl rfl ?_
    obtain ⟨ho1, H⟩ := H
    refine xt_getI dX10_append_8 (flX10_51 rfl) ft_12_1 ho1.1 ho1.2 ?_
    refine xt_aload_n (j := 0) dX10_append_11 rfl rfl ?_
    obtain ⟨b2, hb, H⟩ := H
    refine xt_getR dX10_append_12 (flX10_9 rfl) ft_12_0 ho1.1 ho1.2 hb ?_
    obtain ⟨ho3, H⟩ := H
    refine xt_alen dX10_append_15 ho3.1 (Or.inl ho3.2) ?_
    refine xt_icmp_ge (tgt := 48) dX10_append_16 (by decide) (fun hc => ?_) (fun hc => ?_)
    · have H := H.1 hc
      exact xt_sub [] rfl (VX10_append_48 H)
    · have H := H.2 hc
      refine xt_aload_n (j := 0) dX10_append_19 rfl rfl ?_
      obtain ⟨b4, hb, H⟩ := H
      refine xt_getR dX10_append_20 (flX10_9 rfl) ft_12_0 ho1.1 ho1.2 hb ?_
      refine xt_aload_n (j := 0) dX10_append_23 rfl rfl ?_
      refine xt_getI dX10_append_24 (flX10_51 rfl) ft_12_1 ho1.1 ho1.2 ?_
      refine xt_iload_n (j := 1) dX10_append_27 rfl rfl ?_
      refine xt_iload_n (j := 2) dX10_append_28 rfl rfl ?_
      refine xt_iushr dX10_append_29 ?_
      refine xt_i2b dX10_append_30 ?_
      obtain ⟨ho5, H⟩ := H
      obtain ⟨hi, H⟩ := H
      obtain ⟨M6, eM6⟩ : ∃ z, z = wAI M b4 (mI M x0 1 : Int32).toNatClampNeg (vp_nar .byte ((((x1 : Int32).toUInt32 >>> ((x2 : Int32).toUInt32 &&& Int32.toUInt32 31)).toInt32 : Int32).toInt8.toInt32)) := ⟨_, rfl⟩
      have H := H _ eM6
      refine xt_bast dX10_append_31 ho5.1 ho5.2 hi ?_
      have ho1 : ok M6 x0 12 := by rw [eM6]; exact ho1
      rw [← eM6]
      refine xt_aload_n (j := 0) dX10_append_32 rfl rfl ?_
      refine xt_dup dX10_append_33 rfl ?_
      refine xt_getI dX10_append_34 (flX10_51 rfl) ft_12_1 ho1.1 ho1.2 ?_
      refine xt_iconst (v := 1) dX10_append_37 (by decide) ?_
      refine xt_iadd dX10_append_38 ?_
      obtain ⟨M7, eM7⟩ : ∃ z, z = wI M6 x0 1 ((mI M6 x0 1) + 1) := ⟨_, rfl⟩
      have H := H _ eM7
      refine xt_putI dX10_append_39 (flX10_51 rfl) ty_12_1 rfl ho1.1 ho1.2 ?_
      have ho1 : ok M7 x0 12 := by rw [eM7]; exact ho1
      rw [← eM7]
      refine xt_iinc (j := 2) (v := x2 + (-8)) (lv' := [(2, .int (x2 + (-8))), (0, .ref x0), (1, .int x1)]) dX10_append_42 rfl (by rfl) (by decide) rfl ?_
      refine xt_goto (tgt := 3) dX10_append_45 (by decide) ?_
      exact xt_sub (lv' := [(0, .ref x0), (1, .int x1), (2, .int (x2 + (-8)))]) [1, 2, 0] rfl H
def DX10_append_0 (h : Nat) (x0 : Nat) (x1 : Int32) (M : Mem) (Q : Option Value → Mem → Prop) : Prop :=
  T (h + 1) mdX10_append 3 [(0, .ref x0), (1, .int x1), (2, .int 24)] [] M Q
set_option maxRecDepth 20000 in
set_option maxHeartbeats 2000000 in
theorem VX10_append_0 {h : Nat} {x0 : Nat} {x1 : Int32} {M : Mem} {Q : Option Value → Mem → Prop} (H : DX10_append_0 h x0 x1 M Q) : T (h + 1) mdX10_append 0 [(0, .ref x0), (1, .int x1)] [] M Q := by
  unfold DX10_append_0 at H
  refine xt_bipush (v := 24) dX10_append_0 (by decide) ?_
  refine xt_istore_n (lv' := [(2, .int 24), (0, .ref x0), (1, .int x1)]) dX10_append_2 rfl (by decide) rfl ?_
  exact xt_sub (lv' := [(0, .ref x0), (1, .int x1), (2, .int 24)]) [1, 2, 0] rfl H
theorem KX10_append {h : Nat} {x0 : Nat} {x1 : Int32} {M : Mem} {Q : Option Value → Mem → Prop} (H : DX10_append_0 h x0 x1 M Q) : E (h + 1) mdX10_append [.ref x0, .int x1] M Q := E.of (by decide) (Nat.le_of_ble_eq_true rfl) (fun _ _ _ => trivial) (VX10_append_0 H)
def DX10_end_12 (h : Nat) (M : Mem) (Q : Option Value → Mem → Prop) : Prop :=
  Q (some (.int (-1))) M
set_option maxRecDepth 20000 in
set_option maxHeartbeats 2000000 in
theorem VX10_end_12 {h : Nat} {M : Mem} {Q : Option Value → Mem → Prop} (H : DX10_end_12 h  M Q) : T (h + 1) mdX10_end 12 [] [] M Q := by
  unfold DX10_end_12 at H
  refine xt_iconst (v := -1) dX10_end_12 (by decide) ?_
  exact xt_ireturn dX10_end_13 rfl H
def DX10_end_0 (h : Nat) (x0 : Nat) (x1 : Int32) (M : Mem) (Q : Option Value → Mem → Prop) : Prop :=
  (x1 < 0 → DX10_end_12 h  M Q) ∧
  (¬ (x1 < 0) → ok M x0 12 ∧ (x1 ≤ (mI M x0 1) → ∀ M2 : Mem, M2 = wI M x0 1 x1 →
  Q (some (.int (mI M x0 1))) M2) ∧
  (¬ (x1 ≤ (mI M x0 1)) → DX10_end_12 h  M Q))
set_option maxRecDepth 20000 in
set_option maxHeartbeats 2000000 in
theorem VX10_end_0 {h : Nat} {x0 : Nat} {x1 : Int32} {M : Mem} {Q : Option Value → Mem → Prop} (H : DX10_end_0 h x0 x1 M Q) : T (h + 1) mdX10_end 0 [(0, .ref x0), (1, .int x1)] [] M Q := by
  unfold DX10_end_0 at H
  refine xt_iload_n (j := 1) dX10_end_0 rfl rfl ?_
  refine xt_if_lt (tgt := 12) dX10_end_1 (by decide) (fun hc => ?_) (fun hc => ?_)
  · have H := H.1 hc
    exact xt_sub [] rfl (VX10_end_12 H)
  · have H := H.2 hc
    refine xt_iload_n (j := 1) dX10_end_4 rfl rfl ?_
    refine xt_aload_n (j := 0) dX10_end_5 rfl rfl ?_
    obtain ⟨ho1, H⟩ := H
    refine xt_getI dX10_end_6 (flX10_51 rfl) ft_12_1 ho1.1 ho1.2 ?_
    refine xt_icmp_le (tgt := 14) dX10_end_9 (by decide) (fun hc => ?_) (fun hc => ?_)
    · have H := H.1 hc
      refine xt_aload_n (j := 0) dX10_end_14 rfl rfl ?_
      refine xt_getI dX10_end_15 (flX10_51 rfl) ft_12_1 ho1.1 ho1.2 ?_
      refine xt_istore_n (lv' := [(2, .int (mI M x0 1)), (0, .ref x0), (1, .int x1)]) dX10_end_18 rfl (by decide) rfl ?_
      refine xt_aload_n (j := 1) dX10_end_19 rfl rfl ?_
      refine xt_iload_n (j := 2) dX10_end_20 rfl rfl ?_
      obtain ⟨M2, eM2⟩ : ∃ z, z = wI M x0 1 x1 := ⟨_, rfl⟩
      have H := H _ eM2
      refine xt_putI dX10_end_21 (flX10_51 rfl) ty_12_1 rfl ho1.1 ho1.2 ?_
      have ho1 : ok M2 x0 12 := by rw [eM2]; exact ho1
      rw [← eM2]
      refine xt_iload_n (j := 0) dX10_end_24 rfl rfl ?_
      exact xt_ireturn dX10_end_25 rfl H
    · have H := H.2 hc
      exact xt_sub [] rfl (VX10_end_12 H)
theorem KX10_end {h : Nat} {x0 : Nat} {x1 : Int32} {M : Mem} {Q : Option Value → Mem → Prop} (H : DX10_end_0 h x0 x1 M Q) : E (h + 1) mdX10_end [.ref x0, .int x1] M Q := E.of (by decide) (Nat.le_of_ble_eq_true rfl) (fun _ _ _ => trivial) (VX10_end_0 H)
def DX10_compile_0 (h : Nat) (x0 : Nat) (M : Mem) (Q : Option Value → Mem → Prop) : Prop :=
  ok M x0 12 ∧ ∃ b2 : Nat, mR M x0 2 = some b2 ∧ ok M b2 1 ∧ E h mdJx4a65c_size_8abf5 [.ref b2] M (fun r M4 => mE M M4 → ∃ r5 : Int32, r = some (.int r5) ∧ (r5 < 4 → ∃ b6 : Nat, mR M4 x0 4 = some b6 ∧ ok M4 b6 6 ∧ E h mdX4_read [.ref b6, .int (mI M4 x0 1)] M4 (fun r M8 => mE M4 M8 → ∃ o9 : Option Nat, r = some (va_rf o9) ∧ ∀ M10 : Mem, M10 = wI M8 x0 1 0 →
  ∃ b11 : Nat, mR M10 x0 4 = some b11 ∧ ok M10 b11 6 ∧ ∃ b13 : Nat, mR M10 b11 0 = some b13 ∧ ok M10 b13 9 ∧ ∀ M15 : Mem, M15 = wI M10 x0 6 (mI M10 b13 12) →
  (o9 = none → ∃ b17 : Nat, mR M15 x0 4 = some b17 ∧ ok M15 b17 6 ∧ ∃ b19 : Nat, mR M15 b17 0 = some b19 ∧ ok M15 b19 9 ∧ Q (some (.int ((-10) - (mI M15 b19 13)))) M15) ∧
  (∀ b16 : Nat, o9 = some b16 → ∃ b21 : Nat, mR M15 x0 5 = some b21 ∧ ok M15 b21 11 ∧ E h mdX9_weave [.ref b21, .ref b16] M15 (fun r M23 => mE M15 M23 → r = none ∧ ∃ b24 : Nat, mR M23 x0 2 = some b24 ∧ ok M23 b24 1 ∧ E h mdJx4a65c_add_9ea2d [.ref b24, .ref b16] M23 (fun r M26 => mE M23 M26 → ∃ r27 : Int32, r = some (.int r27) ∧ ∃ b28 : Nat, mR M26 x0 2 = some b28 ∧ ok M26 b28 1 ∧ E h mdJx4a65c_size_8abf5 [.ref b28] M26 (fun r M30 => mE M26 M30 → ∃ r31 : Int32, r = some (.int r31) ∧ Q (some (.int (r31 - 1))) M30)))))) ∧
  (¬ (r5 < 4) → Q (some (.int (-3))) M4))
set_option maxRecDepth 20000 in
set_option maxHeartbeats 2000000 in
theorem VX10_compile_0 {h : Nat} {x0 : Nat} {M : Mem} {Q : Option Value → Mem → Prop} (H : DX10_compile_0 h x0 M Q) : T (h + 1) mdX10_compile 0 [(0, .ref x0)] [] M Q := by
  unfold DX10_compile_0 at H
  refine xt_aload_n (j := 0) dX10_compile_0 rfl rfl ?_
  obtain ⟨ho1, H⟩ := H
  obtain ⟨b2, hb, H⟩ := H
  refine xt_getR dX10_compile_1 (flX10_16 rfl) ft_12_2 ho1.1 ho1.2 hb ?_
  obtain ⟨ho3, H⟩ := H
  refine xt_callV (h2 := h) (as := []) (st := []) dX10_compile_4 (mlX10_58 rfl) rfl ho3.1 ⟨by rw [ho3.2]; rfl, by rw [ho3.2]; decide⟩ (by first | decide | (simp [Value.category]; done)) (Nat.le_refl _) H (fun r M4 HH hE => ?_)
  obtain ⟨r5, hr, H⟩ := HH hE
  subst hr
  have ho1 := ok_E ho1 hE
  show T _ _ _ _ [.int r5] _ _
  refine xt_iconst (v := 4) dX10_compile_7 (by decide) ?_
  refine xt_icmp_lt (tgt := 14) dX10_compile_8 (by decide) (fun hc => ?_) (fun hc => ?_)
  · have H := H.1 hc
    refine xt_aload_n (j := 0) dX10_compile_14 rfl rfl ?_
    obtain ⟨b6, hb, H⟩ := H
    refine xt_getR dX10_compile_15 (flX10_31 rfl) ft_12_4 ho1.1 ho1.2 hb ?_
    refine xt_aload_n (j := 0) dX10_compile_18 rfl rfl ?_
    refine xt_getI dX10_compile_19 (flX10_51 rfl) ft_12_1 ho1.1 ho1.2 ?_
    obtain ⟨ho7, H⟩ := H
    refine xt_callV (h2 := h) (as := [.int (mI M4 x0 1)]) (st := []) dX10_compile_22 (mlX10_62 rfl) rfl ho7.1 ⟨by rw [ho7.2]; rfl, by rw [ho7.2]; decide⟩ (by first | decide | (simp [Value.category]; done)) (Nat.le_refl _) H (fun r M8 HH hE => ?_)
    obtain ⟨o9, hr, H⟩ := HH hE
    subst hr
    have ho1 := ok_E ho1 hE
    show T _ _ _ _ [va_rf o9] _ _
    refine xt_astore_nO (lv' := [(1, va_rf o9), (0, .ref x0)]) dX10_compile_25 rfl (by decide) rfl ?_
    refine xt_aload_n (j := 1) dX10_compile_26 rfl rfl ?_
    refine xt_iconst (v := 0) dX10_compile_27 (by decide) ?_
    obtain ⟨M10, eM10⟩ : ∃ z, z = wI M8 x0 1 0 := ⟨_, rfl⟩
    have H := H _ eM10
    refine xt_putI dX10_compile_28 (flX10_51 rfl) ty_12_1 rfl ho1.1 ho1.2 ?_
    have ho1 : ok M10 x0 12 := by rw [eM10]; exact ho1
    rw [← eM10]
    refine xt_aload_n (j := 1) dX10_compile_31 rfl rfl ?_
    refine xt_aload_n (j := 1) dX10_compile_32 rfl rfl ?_
    obtain ⟨b11, hb, H⟩ := H
    refine xt_getR dX10_compile_33 (flX10_31 rfl) ft_12_4 ho1.1 ho1.2 hb ?_
    obtain ⟨ho12, H⟩ := H
    obtain ⟨b13, hb, H⟩ := H
    refine xt_getR dX10_compile_36 (flX10_66 rfl) ft_6_0 ho12.1 ho12.2 hb ?_
    obtain ⟨ho14, H⟩ := H
    refine xt_getI dX10_compile_39 (flX10_70 rfl) ft_9_12 ho14.1 ho14.2 ?_
    obtain ⟨M15, eM15⟩ : ∃ z, z = wI M10 x0 6 (mI M10 b13 12) := ⟨_, rfl⟩
    have H := H _ eM15
    refine xt_putI dX10_compile_42 (flX10_75 rfl) ty_12_6 rfl ho1.1 ho1.2 ?_
    have ho1 : ok M15 x0 12 := by rw [eM15]; exact ho1
    rw [← eM15]
    refine xt_aload_nO (j := 0) dX10_compile_45 rfl rfl ?_
    rcases ho : o9 with _ | b16
    · have H := H.1 ho
      try rw [ho]
      show T _ _ _ [(1, .null), (0, .ref x0)] [.null] _ _
      refine xt_ifnonnullN dX10_compile_46 ?_
      refine xt_bipush (v := -10) dX10_compile_49 (by decide) ?_
      refine xt_aload_n (j := 1) dX10_compile_51 rfl rfl ?_
      obtain ⟨b17, hb, H⟩ := H
      refine xt_getR dX10_compile_52 (flX10_31 rfl) ft_12_4 ho1.1 ho1.2 hb ?_
      obtain ⟨ho18, H⟩ := H
      obtain ⟨b19, hb, H⟩ := H
      refine xt_getR dX10_compile_55 (flX10_66 rfl) ft_6_0 ho18.1 ho18.2 hb ?_
      obtain ⟨ho20, H⟩ := H
      refine xt_getI dX10_compile_58 (flX10_78 rfl) ft_9_13 ho20.1 ho20.2 ?_
      refine xt_isub dX10_compile_61 ?_
      exact xt_ireturn dX10_compile_62 rfl H
    · have H := H.2 _ ho
      try rw [ho]
      show T _ _ _ [(1, .ref b16), (0, .ref x0)] [.ref b16] _ _
      refine xt_ifnonnull (tgt := 63) dX10_compile_46 (by decide) ?_
      refine xt_aload_n (j := 1) dX10_compile_63 rfl rfl ?_
      obtain ⟨b21, hb, H⟩ := H
      refine xt_getR dX10_compile_64 (flX10_40 rfl) ft_12_5 ho1.1 ho1.2 hb ?_
      refine xt_aload_n (j := 0) dX10_compile_67 rfl rfl ?_
      obtain ⟨ho22, H⟩ := H
      refine xt_callV (h2 := h) (as := [.ref b16]) (st := []) dX10_compile_68 (mlX10_81 rfl) rfl ho22.1 ⟨by rw [ho22.2]; rfl, by rw [ho22.2]; decide⟩ (by first | decide | (simp [Value.category]; done)) (Nat.le_refl _) H (fun r M23 HH hE => ?_)
      obtain ⟨hr, H⟩ := HH hE
      subst hr
      have ho1 := ok_E ho1 hE
      show T _ _ _ _ [] _ _
      refine xt_aload_n (j := 1) dX10_compile_71 rfl rfl ?_
      obtain ⟨b24, hb, H⟩ := H
      refine xt_getR dX10_compile_72 (flX10_16 rfl) ft_12_2 ho1.1 ho1.2 hb ?_
      refine xt_aload_n (j := 0) dX10_compile_75 rfl rfl ?_
      obtain ⟨ho25, H⟩ := H
      refine xt_callV (h2 := h) (as := [.ref b16]) (st := []) dX10_compile_76 (mlX10_85 rfl) rfl ho25.1 ⟨by rw [ho25.2]; rfl, by rw [ho25.2]; decide⟩ (by first | decide | (simp [Value.category]; done)) (Nat.le_refl _) H (fun r M26 HH hE => ?_)
      obtain ⟨r27, hr, H⟩ := HH hE
      subst hr
      have ho1 := ok_E ho1 hE
      show T _ _ _ _ [.int r27] _ _
      refine xt_pop dX10_compile_79 rfl ?_
      refine xt_aload_n (j := 1) dX10_compile_80 rfl rfl ?_
      obtain ⟨b28, hb, H⟩ := H
      refine xt_getR dX10_compile_81 (flX10_16 rfl) ft_12_2 ho1.1 ho1.2 hb ?_
      obtain ⟨ho29, H⟩ := H
      refine xt_callV (h2 := h) (as := []) (st := []) dX10_compile_84 (mlX10_58 rfl) rfl ho29.1 ⟨by rw [ho29.2]; rfl, by rw [ho29.2]; decide⟩ (by first | decide | (simp [Value.category]; done)) (Nat.le_refl _) H (fun r M30 HH hE => ?_)
      obtain ⟨r31, hr, H⟩ := HH hE
      subst hr
      have ho1 := ok_E ho1 hE
      show T _ _ _ _ [.int r31] _ _
      refine xt_iconst (v := 1) dX10_compile_87 (by decide) ?_
      refine xt_isub dX10_compile_88 ?_
      exact xt_ireturn dX10_compile_89 rfl H
  · have H := H.2 hc
    refine xt_bipush (v := -3) dX10_compile_11 (by decide) ?_
    exact xt_ireturn dX10_compile_13 rfl H
theorem KX10_compile {h : Nat} {x0 : Nat} {M : Mem} {Q : Option Value → Mem → Prop} (H : DX10_compile_0 h x0 M Q) : E (h + 1) mdX10_compile [.ref x0] M Q := E.of (by decide) (Nat.le_of_ble_eq_true rfl) (fun _ _ _ => trivial) (VX10_compile_0 H)
def DX10_fault_0 (h : Nat) (x0 : Nat) (M : Mem) (Q : Option Value → Mem → Prop) : Prop :=
  ok M x0 12 ∧ Q (some (.int (mI M x0 6))) M
set_option maxRecDepth 20000 in
set_option maxHeartbeats 2000000 in
theorem VX10_fault_0 {h : Nat} {x0 : Nat} {M : Mem} {Q : Option Value → Mem → Prop} (H : DX10_fault_0 h x0 M Q) : T (h + 1) mdX10_fault 0 [(0, .ref x0)] [] M Q := by
  unfold DX10_fault_0 at H
  refine xt_aload_n (j := 0) dX10_fault_0 rfl rfl ?_
  obtain ⟨ho1, H⟩ := H
  refine xt_getI dX10_fault_1 (flX10_75 rfl) ft_12_6 ho1.1 ho1.2 ?_
  exact xt_ireturn dX10_fault_4 rfl H
theorem KX10_fault {h : Nat} {x0 : Nat} {M : Mem} {Q : Option Value → Mem → Prop} (H : DX10_fault_0 h x0 M Q) : E (h + 1) mdX10_fault [.ref x0] M Q := E.of (by decide) (Nat.le_of_ble_eq_true rfl) (fun _ _ _ => trivial) (VX10_fault_0 H)
def DX10_module_0 (h : Nat) (x0 : Nat) (x1 : Int32) (x2 : Int32) (M : Mem) (Q : Option Value → Mem → Prop) : Prop :=
  ok M x0 12 ∧ E h mdX10_moduleAt [.ref x0, .int x1] M (fun r M2 => mE M M2 → ∃ o3 : Option Nat, r = some (va_rf o3) ∧ (o3 = none → Q (some (.int (-1))) M2) ∧
  (∀ b4 : Nat, o3 = some b4 → (x2 = 0 → ok M2 b4 3 ∧ Q (some (.int (mI M2 b4 9))) M2) ∧
  (x2 = 1 → ok M2 b4 3 ∧ Q (some (.int (mI M2 b4 10))) M2) ∧
  (x2 = 2 → ok M2 b4 3 ∧ E h mdJ6_bitCount_0f7a4 [.int (mI M2 b4 11)] M2 (fun r M8 => mE M2 M8 → ∃ r9 : Int32, r = some (.int r9) ∧ Q (some (.int r9)) M8)) ∧
  (x2 = 3 → ok M2 b4 3 ∧ Q (some (.int (mI M2 b4 12))) M2) ∧
  (x2 = 4 → ok M2 b4 3 ∧ ∃ b12 : Nat, mR M2 b4 6 = some b12 ∧ ok M2 b12 1 ∧ E h mdJx4a65c_size_8abf5 [.ref b12] M2 (fun r M14 => mE M2 M14 → ∃ r15 : Int32, r = some (.int r15) ∧ Q (some (.int r15)) M14)) ∧
  (x2 = 5 → ok M2 b4 3 ∧ Q (some (.int (mI M2 b4 13))) M2) ∧
  (x2 = 6 → ok M2 b4 3 ∧ Q (some (.int (mI M2 b4 14))) M2) ∧
  (x2 = 7 → ok M2 b4 3 ∧ Q (some (.int (mI M2 b4 15))) M2) ∧
  (((x2 : Int32).toInt < 0 ∨ 7 < (x2 : Int32).toInt) → Q (some (.int (-1))) M2)))
set_option maxRecDepth 20000 in
set_option maxHeartbeats 2000000 in
theorem VX10_module_0 {h : Nat} {x0 : Nat} {x1 : Int32} {x2 : Int32} {M : Mem} {Q : Option Value → Mem → Prop} (H : DX10_module_0 h x0 x1 x2 M Q) : T (h + 1) mdX10_module 0 [(0, .ref x0), (1, .int x1), (2, .int x2)] [] M Q := by
  unfold DX10_module_0 at H
  refine xt_aload_n (j := 0) dX10_module_0 rfl rfl ?_
  refine xt_iload_n (j := 1) dX10_module_1 rfl rfl ?_
  obtain ⟨ho1, H⟩ := H
  refine xt_callV (h2 := h) (as := [.int x1]) (st := []) dX10_module_2 (mlX10_89 rfl) rfl ho1.1 ⟨by rw [ho1.2]; rfl, by rw [ho1.2]; decide⟩ (by first | decide | (simp [Value.category]; done)) (Nat.le_refl _) H (fun r M2 HH hE => ?_)
  obtain ⟨o3, hr, H⟩ := HH hE
  subst hr
  have ho1 := ok_E ho1 hE
  show T _ _ _ _ [va_rf o3] _ _
  refine xt_astore_nO (lv' := [(3, va_rf o3), (0, .ref x0), (1, .int x1), (2, .int x2)]) dX10_module_5 rfl (by decide) rfl ?_
  refine xt_aload_nO (j := 0) dX10_module_6 rfl rfl ?_
  rcases ho : o3 with _ | b4
  · have H := H.1 ho
    try rw [ho]
    show T _ _ _ [(3, .null), (0, .ref x0), (1, .int x1), (2, .int x2)] [.null] _ _
    refine xt_ifnonnullN dX10_module_7 ?_
    refine xt_iconst (v := -1) dX10_module_10 (by decide) ?_
    exact xt_ireturn dX10_module_11 rfl H
  · have H := H.2 _ ho
    try rw [ho]
    show T _ _ _ [(3, .ref b4), (0, .ref x0), (1, .int x1), (2, .int x2)] [.ref b4] _ _
    refine xt_ifnonnull (tgt := 12) dX10_module_7 (by decide) ?_
    refine xt_iload_n (j := 3) dX10_module_12 rfl rfl ?_
    by_cases hsw : (x2 : Int32).toInt < 0 ∨ 7 < (x2 : Int32).toInt
    · refine xt_tableOut (tgt := 106) dX10_module_13 hsw (by decide) ?_
      have H := H.2.2.2.2.2.2.2.2 hsw
      refine xt_iconst (v := -1) dX10_module_106 (by decide) ?_
      exact xt_ireturn dX10_module_107 rfl H
    · have hsw2 : (x2 : Int32).toInt = 0 ∨ (x2 : Int32).toInt = 1 ∨ (x2 : Int32).toInt = 2 ∨ (x2 : Int32).toInt = 3 ∨ (x2 : Int32).toInt = 4 ∨ (x2 : Int32).toInt = 5 ∨ (x2 : Int32).toInt = 6 ∨ (x2 : Int32).toInt = 7 := by omega
      rcases hsw2 with hv | hv | hv | hv | hv | hv | hv | hv
      · have hx : x2 = 0 := i32_ofInt hv
        have H := H.1 hx
        refine xt_tableIn (tgt := 60) dX10_module_13 (by omega) (by omega) (by rw [hv]; rfl) (by decide) ?_
        refine xt_aload_n (j := 0) dX10_module_60 rfl rfl ?_
        obtain ⟨ho5, H⟩ := H
        refine xt_getI dX10_module_61 (flX10_92 rfl) ft_3_9 ho5.1 ho5.2 ?_
        exact xt_ireturn dX10_module_64 rfl H
      · have hx : x2 = 1 := i32_ofInt hv
        have H := H.2.1 hx
        refine xt_tableIn (tgt := 65) dX10_module_13 (by omega) (by omega) (by rw [hv]; rfl) (by decide) ?_
        refine xt_aload_n (j := 0) dX10_module_65 rfl rfl ?_
        obtain ⟨ho6, H⟩ := H
        refine xt_getI dX10_module_66 (flX10_97 rfl) ft_3_10 ho6.1 ho6.2 ?_
        exact xt_ireturn dX10_module_69 rfl H
      · have hx : x2 = 2 := i32_ofInt hv
        have H := H.2.2.1 hx
        refine xt_tableIn (tgt := 70) dX10_module_13 (by omega) (by omega) (by rw [hv]; rfl) (by decide) ?_
        refine xt_aload_n (j := 0) dX10_module_70 rfl rfl ?_
        obtain ⟨ho7, H⟩ := H
        refine xt_getI dX10_module_71 (flX10_100 rfl) ft_3_11 ho7.1 ho7.2 ?_
        refine xt_callS (h2 := h) (as := [.int (mI M2 b4 11)]) (st := []) dX10_module_74 (mlX10_103 rfl) rfl (by first | decide | (simp [Value.category]; done)) (Nat.le_refl _) H (fun r M8 HH hE => ?_)
        obtain ⟨r9, hr, H⟩ := HH hE
        subst hr
        have ho1 := ok_E ho1 hE
        have ho7 := ok_E ho7 hE
        show T _ _ _ _ [.int r9] _ _
        exact xt_ireturn dX10_module_77 rfl H
      · have hx : x2 = 3 := i32_ofInt hv
        have H := H.2.2.2.1 hx
        refine xt_tableIn (tgt := 78) dX10_module_13 (by omega) (by omega) (by rw [hv]; rfl) (by decide) ?_
        refine xt_aload_n (j := 0) dX10_module_78 rfl rfl ?_
        obtain ⟨ho10, H⟩ := H
        refine xt_getI dX10_module_79 (flX10_109 rfl) ft_3_12 ho10.1 ho10.2 ?_
        exact xt_ireturn dX10_module_82 rfl H
      · have hx : x2 = 4 := i32_ofInt hv
        have H := H.2.2.2.2.1 hx
        refine xt_tableIn (tgt := 83) dX10_module_13 (by omega) (by omega) (by rw [hv]; rfl) (by decide) ?_
        refine xt_aload_n (j := 0) dX10_module_83 rfl rfl ?_
        obtain ⟨ho11, H⟩ := H
        obtain ⟨b12, hb, H⟩ := H
        refine xt_getR dX10_module_84 (flX10_112 rfl) ft_3_6 ho11.1 ho11.2 hb ?_
        obtain ⟨ho13, H⟩ := H
        refine xt_callV (h2 := h) (as := []) (st := []) dX10_module_87 (mlX10_58 rfl) rfl ho13.1 ⟨by rw [ho13.2]; rfl, by rw [ho13.2]; decide⟩ (by first | decide | (simp [Value.category]; done)) (Nat.le_refl _) H (fun r M14 HH hE => ?_)
        obtain ⟨r15, hr, H⟩ := HH hE
        subst hr
        have ho1 := ok_E ho1 hE
        have ho11 := ok_E ho11 hE
        show T _ _ _ _ [.int r15] _ _
        exact xt_ireturn dX10_module_90 rfl H
      · have hx : x2 = 5 := i32_ofInt hv
        have H := H.2.2.2.2.2.1 hx
        refine xt_tableIn (tgt := 91) dX10_module_13 (by omega) (by omega) (by rw [hv]; rfl) (by decide) ?_
        refine xt_aload_n (j := 0) dX10_module_91 rfl rfl ?_
        obtain ⟨ho16, H⟩ := H
        refine xt_getI dX10_module_92 (flX10_115 rfl) ft_3_13 ho16.1 ho16.2 ?_
        exact xt_ireturn dX10_module_95 rfl H
      · have hx : x2 = 6 := i32_ofInt hv
        have H := H.2.2.2.2.2.2.1 hx
        refine xt_tableIn (tgt := 96) dX10_module_13 (by omega) (by omega) (by rw [hv]; rfl) (by decide) ?_
        refine xt_aload_n (j := 0) dX10_module_96 rfl rfl ?_
        obtain ⟨ho17, H⟩ := H
        refine xt_getI dX10_module_97 (flX10_118 rfl) ft_3_14 ho17.1 ho17.2 ?_
        exact xt_ireturn dX10_module_100 rfl H
      · have hx : x2 = 7 := i32_ofInt hv
        have H := H.2.2.2.2.2.2.2.1 hx
        refine xt_tableIn (tgt := 101) dX10_module_13 (by omega) (by omega) (by rw [hv]; rfl) (by decide) ?_
        refine xt_aload_n (j := 0) dX10_module_101 rfl rfl ?_
        obtain ⟨ho18, H⟩ := H
        refine xt_getI dX10_module_102 (flX10_121 rfl) ft_3_15 ho18.1 ho18.2 ?_
        exact xt_ireturn dX10_module_105 rfl H
theorem KX10_module {h : Nat} {x0 : Nat} {x1 : Int32} {x2 : Int32} {M : Mem} {Q : Option Value → Mem → Prop} (H : DX10_module_0 h x0 x1 x2 M Q) : E (h + 1) mdX10_module [.ref x0, .int x1, .int x2] M Q := E.of (by decide) (Nat.le_of_ble_eq_true rfl) (fun _ _ _ => trivial) (VX10_module_0 H)
def DX10_part_18 (h : Nat) (M : Mem) (Q : Option Value → Mem → Prop) : Prop :=
  Q (some (.int (-1))) M
set_option maxRecDepth 20000 in
set_option maxHeartbeats 2000000 in
theorem VX10_part_18 {h : Nat} {M : Mem} {Q : Option Value → Mem → Prop} (H : DX10_part_18 h  M Q) : T (h + 1) mdX10_part 18 [] [] M Q := by
  unfold DX10_part_18 at H
  refine xt_iconst (v := -1) dX10_part_18 (by decide) ?_
  exact xt_ireturn dX10_part_19 rfl H
def DX10_part_0 (h : Nat) (x0 : Nat) (x1 : Int32) (x2 : Int32) (M : Mem) (Q : Option Value → Mem → Prop) : Prop :=
  ok M x0 12 ∧ E h mdX10_moduleAt [.ref x0, .int x1] M (fun r M2 => mE M M2 → ∃ o3 : Option Nat, r = some (va_rf o3) ∧ (o3 = none → DX10_part_18 h  M2 Q) ∧
  (∀ b4 : Nat, o3 = some b4 → ok M2 b4 3 ∧ E h mdX1_hasPart [.ref b4, .int x2] M2 (fun r M6 => mE M2 M6 → ∃ r7 : Int32, r = some (.int r7) ∧ (¬ r7 = 0 → ∃ b8 : Nat, mR M6 b4 6 = some b8 ∧ ok M6 b8 1 ∧ E h mdJx4a65c_get_915e3 [.ref b8, .int x2] M6 (fun r M10 => mE M6 M10 → ∃ b11 : Nat, r = some (.ref b11) ∧ ok M10 b11 5 ∧ Q (some (.int (mI M10 b11 0))) M10)) ∧
  (r7 = 0 → DX10_part_18 h  M6 Q))))
set_option maxRecDepth 20000 in
set_option maxHeartbeats 2000000 in
theorem VX10_part_0 {h : Nat} {x0 : Nat} {x1 : Int32} {x2 : Int32} {M : Mem} {Q : Option Value → Mem → Prop} (H : DX10_part_0 h x0 x1 x2 M Q) : T (h + 1) mdX10_part 0 [(0, .ref x0), (1, .int x1), (2, .int x2)] [] M Q := by
  unfold DX10_part_0 at H
  refine xt_aload_n (j := 0) dX10_part_0 rfl rfl ?_
  refine xt_iload_n (j := 1) dX10_part_1 rfl rfl ?_
  obtain ⟨ho1, H⟩ := H
  refine xt_callV (h2 := h) (as := [.int x1]) (st := []) dX10_part_2 (mlX10_89 rfl) rfl ho1.1 ⟨by rw [ho1.2]; rfl, by rw [ho1.2]; decide⟩ (by first | decide | (simp [Value.category]; done)) (Nat.le_refl _) H (fun r M2 HH hE => ?_)
  obtain ⟨o3, hr, H⟩ := HH hE
  subst hr
  have ho1 := ok_E ho1 hE
  show T _ _ _ _ [va_rf o3] _ _
  refine xt_astore_nO (lv' := [(3, va_rf o3), (0, .ref x0), (1, .int x1), (2, .int x2)]) dX10_part_5 rfl (by decide) rfl ?_
  refine xt_aload_nO (j := 0) dX10_part_6 rfl rfl ?_
  rcases ho : o3 with _ | b4
  · have H := H.1 ho
    try rw [ho]
    show T _ _ _ [(3, .null), (0, .ref x0), (1, .int x1), (2, .int x2)] [.null] _ _
    refine xt_ifnullN (tgt := 18) dX10_part_7 (by decide) ?_
    exact xt_sub [] rfl (VX10_part_18 H)
  · have H := H.2 _ ho
    try rw [ho]
    show T _ _ _ [(3, .ref b4), (0, .ref x0), (1, .int x1), (2, .int x2)] [.ref b4] _ _
    refine xt_ifnull dX10_part_7 ?_
    refine xt_aload_n (j := 0) dX10_part_10 rfl rfl ?_
    refine xt_iload_n (j := 3) dX10_part_11 rfl rfl ?_
    obtain ⟨ho5, H⟩ := H
    refine xt_callV (h2 := h) (as := [.int x2]) (st := []) dX10_part_12 (mlX10_124 rfl) rfl ho5.1 ⟨by rw [ho5.2]; rfl, by rw [ho5.2]; decide⟩ (by first | decide | (simp [Value.category]; done)) (Nat.le_refl _) H (fun r M6 HH hE => ?_)
    obtain ⟨r7, hr, H⟩ := HH hE
    subst hr
    have ho1 := ok_E ho1 hE
    have ho5 := ok_E ho5 hE
    show T _ _ _ _ [.int r7] _ _
    refine xt_if_ne (tgt := 20) dX10_part_15 (by decide) (fun hc => ?_) (fun hc => ?_)
    · have H := H.1 hc
      refine xt_aload_n (j := 0) dX10_part_20 rfl rfl ?_
      obtain ⟨b8, hb, H⟩ := H
      refine xt_getR dX10_part_21 (flX10_112 rfl) ft_3_6 ho5.1 ho5.2 hb ?_
      refine xt_iload_n (j := 3) dX10_part_24 rfl rfl ?_
      obtain ⟨ho9, H⟩ := H
      refine xt_callV (h2 := h) (as := [.int x2]) (st := []) dX10_part_25 (mlX10_128 rfl) rfl ho9.1 ⟨by rw [ho9.2]; rfl, by rw [ho9.2]; decide⟩ (by first | decide | (simp [Value.category]; done)) (Nat.le_refl _) H (fun r M10 HH hE => ?_)
      obtain ⟨b11, hr, H⟩ := HH hE
      subst hr
      have ho1 := ok_E ho1 hE
      have ho5 := ok_E ho5 hE
      show T _ _ _ _ [.ref b11] _ _
      obtain ⟨ho12, H⟩ := H
      refine xt_cast dX10_part_28 (ccX10_132 rfl) ho12.1 ho12.2 ?_
      refine xt_getI dX10_part_31 (flX10_134 rfl) ft_5_0 ho12.1 ho12.2 ?_
      exact xt_ireturn dX10_part_34 rfl H
    · have H := H.2 hc
      exact xt_sub [] rfl (VX10_part_18 H)
theorem KX10_part {h : Nat} {x0 : Nat} {x1 : Int32} {x2 : Int32} {M : Mem} {Q : Option Value → Mem → Prop} (H : DX10_part_0 h x0 x1 x2 M Q) : E (h + 1) mdX10_part [.ref x0, .int x1, .int x2] M Q := E.of (by decide) (Nat.le_of_ble_eq_true rfl) (fun _ _ _ => trivial) (VX10_part_0 H)
def DX10_governor_0 (h : Nat) (x0 : Nat) (x1 : Int32) (M : Mem) (Q : Option Value → Mem → Prop) : Prop :=
  ok M x0 12 ∧ E h mdX10_moduleAt [.ref x0, .int x1] M (fun r M2 => mE M M2 → ∃ o3 : Option Nat, r = some (va_rf o3) ∧ (o3 = none → Q (some (.int (-1))) M2) ∧
  (∀ b4 : Nat, o3 = some b4 → ∃ b5 : Nat, mR M2 x0 3 = some b5 ∧ ok M2 b5 1 ∧ E h mdJx4a65c_size_8abf5 [.ref b5] M2 (fun r M7 => mE M2 M7 → ∃ r8 : Int32, r = some (.int r8) ∧ (r8 < 8 → ∃ b9 : Nat, mR M7 x0 3 = some b9 ∧ ∀ (q11 : Nat) (M10 : Mem), q11 = mN M7 → M10 = nwO M7 4 14 →
  E h mdX2_init [.ref q11, .ref b4, .int x1] M10 (fun r M12 => mE M10 M12 → r = none ∧ ok M12 b9 1 ∧ E h mdJx4a65c_add_9ea2d [.ref b9, .ref q11] M12 (fun r M14 => mE M12 M14 → ∃ r15 : Int32, r = some (.int r15) ∧ ∃ b16 : Nat, mR M14 x0 3 = some b16 ∧ ok M14 b16 1 ∧ E h mdJx4a65c_size_8abf5 [.ref b16] M14 (fun r M18 => mE M14 M18 → ∃ r19 : Int32, r = some (.int r19) ∧ Q (some (.int (r19 - 1))) M18)))) ∧
  (¬ (r8 < 8) → Q (some (.int (-3))) M7))))
set_option maxRecDepth 20000 in
set_option maxHeartbeats 2000000 in
theorem VX10_governor_0 {h : Nat} {x0 : Nat} {x1 : Int32} {M : Mem} {Q : Option Value → Mem → Prop} (H : DX10_governor_0 h x0 x1 M Q) : T (h + 1) mdX10_governor 0 [(0, .ref x0), (1, .int x1)] [] M Q := by
  unfold DX10_governor_0 at H
  refine xt_aload_n (j := 0) dX10_governor_0 rfl rfl ?_
  refine xt_iload_n (j := 1) dX10_governor_1 rfl rfl ?_
  obtain ⟨ho1, H⟩ := H
  refine xt_callV (h2 := h) (as := [.int x1]) (st := []) dX10_governor_2 (mlX10_89 rfl) rfl ho1.1 ⟨by rw [ho1.2]; rfl, by rw [ho1.2]; decide⟩ (by first | decide | (simp [Value.category]; done)) (Nat.le_refl _) H (fun r M2 HH hE => ?_)
  obtain ⟨o3, hr, H⟩ := HH hE
  subst hr
  have ho1 := ok_E ho1 hE
  show T _ _ _ _ [va_rf o3] _ _
  refine xt_astore_nO (lv' := [(2, va_rf o3), (0, .ref x0), (1, .int x1)]) dX10_governor_5 rfl (by decide) rfl ?_
  refine xt_aload_nO (j := 0) dX10_governor_6 rfl rfl ?_
  rcases ho : o3 with _ | b4
  · have H := H.1 ho
    try rw [ho]
    show T _ _ _ [(2, .null), (0, .ref x0), (1, .int x1)] [.null] _ _
    refine xt_ifnonnullN dX10_governor_7 ?_
    refine xt_iconst (v := -1) dX10_governor_10 (by decide) ?_
    exact xt_ireturn dX10_governor_11 rfl H
  · have H := H.2 _ ho
    try rw [ho]
    show T _ _ _ [(2, .ref b4), (0, .ref x0), (1, .int x1)] [.ref b4] _ _
    refine xt_ifnonnull (tgt := 12) dX10_governor_7 (by decide) ?_
    refine xt_aload_n (j := 1) dX10_governor_12 rfl rfl ?_
    obtain ⟨b5, hb, H⟩ := H
    refine xt_getR dX10_governor_13 (flX10_20 rfl) ft_12_3 ho1.1 ho1.2 hb ?_
    obtain ⟨ho6, H⟩ := H
    refine xt_callV (h2 := h) (as := []) (st := []) dX10_governor_16 (mlX10_58 rfl) rfl ho6.1 ⟨by rw [ho6.2]; rfl, by rw [ho6.2]; decide⟩ (by first | decide | (simp [Value.category]; done)) (Nat.le_refl _) H (fun r M7 HH hE => ?_)
    obtain ⟨r8, hr, H⟩ := HH hE
    subst hr
    have ho1 := ok_E ho1 hE
    show T _ _ _ _ [.int r8] _ _
    refine xt_bipush (v := 8) dX10_governor_19 (by decide) ?_
    refine xt_icmp_lt (tgt := 27) dX10_governor_21 (by decide) (fun hc => ?_) (fun hc => ?_)
    · have H := H.1 hc
      refine xt_aload_n (j := 1) dX10_governor_27 rfl rfl ?_
      obtain ⟨b9, hb, H⟩ := H
      refine xt_getR dX10_governor_28 (flX10_20 rfl) ft_12_3 ho1.1 ho1.2 hb ?_
      obtain ⟨M10, eM10⟩ : ∃ z, z = nwO M7 4 14 := ⟨_, rfl⟩
      obtain ⟨q11, eq11⟩ : ∃ z, z = mN M7 := ⟨_, rfl⟩
      have H := H _ _ eq11 eM10
      refine xt_new dX10_governor_31 (nlX10_137 rfl) ?_
      show T _ _ _ _ (.ref (mN M7) :: [.ref b9]) (nwO M7 4 14) _
      have ho1 : ok M10 x0 12 := by rw [eM10]; exact ok_nwO ho1
      rw [← eM10, ← eq11]
      refine xt_dup dX10_governor_34 rfl ?_
      refine xt_aload_n (j := 0) dX10_governor_35 rfl rfl ?_
      refine xt_iload_n (j := 2) dX10_governor_36 rfl rfl ?_
      refine xt_callI (h2 := h) (as := [.ref b4, .int x1]) (st := [.ref q11, .ref b9]) dX10_governor_37 (mlX10_139 rfl) rfl (by first | decide | (simp [Value.category]; done)) (Nat.le_refl _) H (fun r M12 HH hE => ?_)
      obtain ⟨hr, H⟩ := HH hE
      subst hr
      have ho1 := ok_E ho1 hE
      show T _ _ _ _ [.ref q11, .ref b9] _ _
      obtain ⟨ho13, H⟩ := H
      refine xt_callV (h2 := h) (as := [.ref q11]) (st := []) dX10_governor_40 (mlX10_85 rfl) rfl ho13.1 ⟨by rw [ho13.2]; rfl, by rw [ho13.2]; decide⟩ (by first | decide | (simp [Value.category]; done)) (Nat.le_refl _) H (fun r M14 HH hE => ?_)
      obtain ⟨r15, hr, H⟩ := HH hE
      subst hr
      have ho1 := ok_E ho1 hE
      show T _ _ _ _ [.int r15] _ _
      refine xt_pop dX10_governor_43 rfl ?_
      refine xt_aload_n (j := 1) dX10_governor_44 rfl rfl ?_
      obtain ⟨b16, hb, H⟩ := H
      refine xt_getR dX10_governor_45 (flX10_20 rfl) ft_12_3 ho1.1 ho1.2 hb ?_
      obtain ⟨ho17, H⟩ := H
      refine xt_callV (h2 := h) (as := []) (st := []) dX10_governor_48 (mlX10_58 rfl) rfl ho17.1 ⟨by rw [ho17.2]; rfl, by rw [ho17.2]; decide⟩ (by first | decide | (simp [Value.category]; done)) (Nat.le_refl _) H (fun r M18 HH hE => ?_)
      obtain ⟨r19, hr, H⟩ := HH hE
      subst hr
      have ho1 := ok_E ho1 hE
      show T _ _ _ _ [.int r19] _ _
      refine xt_iconst (v := 1) dX10_governor_51 (by decide) ?_
      refine xt_isub dX10_governor_52 ?_
      exact xt_ireturn dX10_governor_53 rfl H
    · have H := H.2 hc
      refine xt_bipush (v := -3) dX10_governor_24 (by decide) ?_
      exact xt_ireturn dX10_governor_26 rfl H
theorem KX10_governor {h : Nat} {x0 : Nat} {x1 : Int32} {M : Mem} {Q : Option Value → Mem → Prop} (H : DX10_governor_0 h x0 x1 M Q) : E (h + 1) mdX10_governor [.ref x0, .int x1] M Q := E.of (by decide) (Nat.le_of_ble_eq_true rfl) (fun _ _ _ => trivial) (VX10_governor_0 H)
def DX10_give_28 (h : Nat) (M : Mem) (Q : Option Value → Mem → Prop) : Prop :=
  Q (some (.int (-1))) M
set_option maxRecDepth 20000 in
set_option maxHeartbeats 2000000 in
theorem VX10_give_28 {h : Nat} {M : Mem} {Q : Option Value → Mem → Prop} (H : DX10_give_28 h  M Q) : T (h + 1) mdX10_give 28 [] [] M Q := by
  unfold DX10_give_28 at H
  refine xt_iconst (v := -1) dX10_give_28 (by decide) ?_
  exact xt_ireturn dX10_give_29 rfl H
def DX10_give_44 (h : Nat) (M : Mem) (Q : Option Value → Mem → Prop) : Prop :=
  Q (some (.int (-1))) M
set_option maxRecDepth 20000 in
set_option maxHeartbeats 2000000 in
theorem VX10_give_44 {h : Nat} {M : Mem} {Q : Option Value → Mem → Prop} (H : DX10_give_44 h  M Q) : T (h + 1) mdX10_give 44 [] [] M Q := by
  unfold DX10_give_44 at H
  refine xt_iconst (v := -1) dX10_give_44 (by decide) ?_
  exact xt_ireturn dX10_give_45 rfl H
def DX10_give_0 (h : Nat) (x0 : Nat) (x1 : Int32) (x2 : Int32) (x3 : Int32) (x4 : Int32) (M : Mem) (Q : Option Value → Mem → Prop) : Prop :=
  ok M x0 12 ∧ E h mdX10_governorAt [.ref x0, .int x1] M (fun r M2 => mE M M2 → ∃ o3 : Option Nat, r = some (va_rf o3) ∧ (o3 = none → DX10_give_28 h  M2 Q) ∧
  (∀ b4 : Nat, o3 = some b4 → (x2 < 0 → DX10_give_28 h  M2 Q) ∧
  (¬ (x2 < 0) → ok M2 b4 4 ∧ ∃ b6 : Nat, mR M2 b4 0 = some b6 ∧ ok M2 b6 3 ∧ (x2 < (mI M2 b6 10) → (x4 < (-1000000000) → DX10_give_44 h  M2 Q) ∧
  (¬ (x4 < (-1000000000)) → (x4 ≤ 1000000000 → E h mdX2_hasEnded [.ref b4] M2 (fun r M8 => mE M2 M8 → ∃ r9 : Int32, r = some (.int r9) ∧ (r9 = 0 → E h mdX2_take [.ref b4, .int x2, .int x3, .int x4] M8 (fun r M10 => mE M8 M10 → r = none ∧ Q (some (.int 1)) M10)) ∧
  (¬ (r9 = 0) → Q (some (.int (-2))) M8))) ∧
  (¬ (x4 ≤ 1000000000) → DX10_give_44 h  M2 Q))) ∧
  (¬ (x2 < (mI M2 b6 10)) → DX10_give_28 h  M2 Q))))
set_option maxRecDepth 20000 in
set_option maxHeartbeats 2000000 in
theorem VX10_give_0 {h : Nat} {x0 : Nat} {x1 : Int32} {x2 : Int32} {x3 : Int32} {x4 : Int32} {M : Mem} {Q : Option Value → Mem → Prop} (H : DX10_give_0 h x0 x1 x2 x3 x4 M Q) : T (h + 1) mdX10_give 0 [(0, .ref x0), (1, .int x1), (2, .int x2), (3, .int x3), (4, .int x4)] [] M Q := by
  unfold DX10_give_0 at H
  refine xt_aload_n (j := 0) dX10_give_0 rfl rfl ?_
  refine xt_iload_n (j := 1) dX10_give_1 rfl rfl ?_
  obtain ⟨ho1, H⟩ := H
  refine xt_callV (h2 := h) (as := [.int x1]) (st := []) dX10_give_2 (mlX10_142 rfl) rfl ho1.1 ⟨by rw [ho1.2]; rfl, by rw [ho1.2]; decide⟩ (by first | decide | (simp [Value.category]; done)) (Nat.le_refl _) H (fun r M2 HH hE => ?_)
  obtain ⟨o3, hr, H⟩ := HH hE
  subst hr
  have ho1 := ok_E ho1 hE
  show T _ _ _ _ [va_rf o3] _ _
  refine xt_astoreO (lv' := [(5, va_rf o3), (0, .ref x0), (1, .int x1), (2, .int x2), (3, .int x3), (4, .int x4)]) dX10_give_5 (by decide) rfl ?_
  refine xt_aloadO (j := 0) dX10_give_7 rfl ?_
  rcases ho : o3 with _ | b4
  · have H := H.1 ho
    try rw [ho]
    show T _ _ _ [(5, .null), (0, .ref x0), (1, .int x1), (2, .int x2), (3, .int x3), (4, .int x4)] [.null] _ _
    refine xt_ifnullN (tgt := 28) dX10_give_9 (by decide) ?_
    exact xt_sub [] rfl (VX10_give_28 H)
  · have H := H.2 _ ho
    try rw [ho]
    show T _ _ _ [(5, .ref b4), (0, .ref x0), (1, .int x1), (2, .int x2), (3, .int x3), (4, .int x4)] [.ref b4] _ _
    refine xt_ifnull dX10_give_9 ?_
    refine xt_iload_n (j := 3) dX10_give_12 rfl rfl ?_
    refine xt_if_lt (tgt := 28) dX10_give_13 (by decide) (fun hc => ?_) (fun hc => ?_)
    · have H := H.1 hc
      exact xt_sub [] rfl (VX10_give_28 H)
    · have H := H.2 hc
      refine xt_iload_n (j := 3) dX10_give_16 rfl rfl ?_
      refine xt_aload (j := 0) dX10_give_17 rfl ?_
      obtain ⟨ho5, H⟩ := H
      obtain ⟨b6, hb, H⟩ := H
      refine xt_getR dX10_give_19 (flX10_146 rfl) ft_4_0 ho5.1 ho5.2 hb ?_
      obtain ⟨ho7, H⟩ := H
      refine xt_getI dX10_give_22 (flX10_97 rfl) ft_3_10 ho7.1 ho7.2 ?_
      refine xt_icmp_lt (tgt := 30) dX10_give_25 (by decide) (fun hc => ?_) (fun hc => ?_)
      · have H := H.1 hc
        refine xt_iload (j := 5) dX10_give_30 rfl ?_
        refine xt_ldc (v := -1000000000) dX10_give_32 (ctX10_150 rfl) ?_
        refine xt_icmp_lt (tgt := 44) dX10_give_34 (by decide) (fun hc => ?_) (fun hc => ?_)
        · have H := H.1 hc
          exact xt_sub [] rfl (VX10_give_44 H)
        · have H := H.2 hc
          refine xt_iload (j := 5) dX10_give_37 rfl ?_
          refine xt_ldc (v := 1000000000) dX10_give_39 (ctX10_151 rfl) ?_
          refine xt_icmp_le (tgt := 46) dX10_give_41 (by decide) (fun hc => ?_) (fun hc => ?_)
          · have H := H.1 hc
            refine xt_aload (j := 0) dX10_give_46 rfl ?_
            refine xt_callV (h2 := h) (as := []) (st := []) dX10_give_48 (mlX10_152 rfl) rfl ho5.1 ⟨by rw [ho5.2]; rfl, by rw [ho5.2]; decide⟩ (by first | decide | (simp [Value.category]; done)) (Nat.le_refl _) H (fun r M8 HH hE => ?_)
            obtain ⟨r9, hr, H⟩ := HH hE
            subst hr
            have ho1 := ok_E ho1 hE
            have ho5 := ok_E ho5 hE
            show T _ _ _ _ [.int r9] _ _
            refine xt_if_eq (tgt := 57) dX10_give_51 (by decide) (fun hc => ?_) (fun hc => ?_)
            · have H := H.1 hc
              refine xt_aload (j := 0) dX10_give_57 rfl ?_
              refine xt_iload_n (j := 3) dX10_give_59 rfl rfl ?_
              refine xt_iload_n (j := 4) dX10_give_60 rfl rfl ?_
              refine xt_iload (j := 5) dX10_give_61 rfl ?_
              refine xt_callV (h2 := h) (as := [.int x2, .int x3, .int x4]) (st := []) dX10_give_63 (mlX10_156 rfl) rfl ho5.1 ⟨by rw [ho5.2]; rfl, by rw [ho5.2]; decide⟩ (by first | decide | (simp [Value.category]; done)) (Nat.le_refl _) H (fun r M10 HH hE => ?_)
              obtain ⟨hr, H⟩ := HH hE
              subst hr
              have ho1 := ok_E ho1 hE
              have ho5 := ok_E ho5 hE
              show T _ _ _ _ [] _ _
              refine xt_iconst (v := 1) dX10_give_66 (by decide) ?_
              exact xt_ireturn dX10_give_67 rfl H
            · have H := H.2 hc
              refine xt_bipush (v := -2) dX10_give_54 (by decide) ?_
              exact xt_ireturn dX10_give_56 rfl H
          · have H := H.2 hc
            exact xt_sub [] rfl (VX10_give_44 H)
      · have H := H.2 hc
        exact xt_sub [] rfl (VX10_give_28 H)
theorem KX10_give {h : Nat} {x0 : Nat} {x1 : Int32} {x2 : Int32} {x3 : Int32} {x4 : Int32} {M : Mem} {Q : Option Value → Mem → Prop} (H : DX10_give_0 h x0 x1 x2 x3 x4 M Q) : E (h + 1) mdX10_give [.ref x0, .int x1, .int x2, .int x3, .int x4] M Q := E.of (by decide) (Nat.le_of_ble_eq_true rfl) (fun _ _ _ => trivial) (VX10_give_0 H)
def DX10_beat_0 (h : Nat) (x0 : Nat) (x1 : Int32) (M : Mem) (Q : Option Value → Mem → Prop) : Prop :=
  ok M x0 12 ∧ E h mdX10_governorAt [.ref x0, .int x1] M (fun r M2 => mE M M2 → ∃ o3 : Option Nat, r = some (va_rf o3) ∧ (o3 = none → Q (some (.int (-1))) M2) ∧
  (∀ b4 : Nat, o3 = some b4 → ok M2 b4 4 ∧ E h mdX2_hasEnded [.ref b4] M2 (fun r M6 => mE M2 M6 → ∃ r7 : Int32, r = some (.int r7) ∧ (r7 = 0 → E h mdX2_react [.ref b4] M6 (fun r M8 => mE M6 M8 → ∃ r9 : Int32, r = some (.int r9) ∧ Q (some (.int r9)) M8)) ∧
  (¬ (r7 = 0) → Q (some (.int (-2))) M6))))
set_option maxRecDepth 20000 in
set_option maxHeartbeats 2000000 in
theorem VX10_beat_0 {h : Nat} {x0 : Nat} {x1 : Int32} {M : Mem} {Q : Option Value → Mem → Prop} (H : DX10_beat_0 h x0 x1 M Q) : T (h + 1) mdX10_beat 0 [(0, .ref x0), (1, .int x1)] [] M Q := by
  unfold DX10_beat_0 at H
  refine xt_aload_n (j := 0) dX10_beat_0 rfl rfl ?_
  refine xt_iload_n (j := 1) dX10_beat_1 rfl rfl ?_
  obtain ⟨ho1, H⟩ := H
  refine xt_callV (h2 := h) (as := [.int x1]) (st := []) dX10_beat_2 (mlX10_142 rfl) rfl ho1.1 ⟨by rw [ho1.2]; rfl, by rw [ho1.2]; decide⟩ (by first | decide | (simp [Value.category]; done)) (Nat.le_refl _) H (fun r M2 HH hE => ?_)
  obtain ⟨o3, hr, H⟩ := HH hE
  subst hr
  have ho1 := ok_E ho1 hE
  show T _ _ _ _ [va_rf o3] _ _
  refine xt_astore_nO (lv' := [(2, va_rf o3), (0, .ref x0), (1, .int x1)]) dX10_beat_5 rfl (by decide) rfl ?_
  refine xt_aload_nO (j := 0) dX10_beat_6 rfl rfl ?_
  rcases ho : o3 with _ | b4
  · have H := H.1 ho
    try rw [ho]
    show T _ _ _ [(2, .null), (0, .ref x0), (1, .int x1)] [.null] _ _
    refine xt_ifnonnullN dX10_beat_7 ?_
    refine xt_iconst (v := -1) dX10_beat_10 (by decide) ?_
    exact xt_ireturn dX10_beat_11 rfl H
  · have H := H.2 _ ho
    try rw [ho]
    show T _ _ _ [(2, .ref b4), (0, .ref x0), (1, .int x1)] [.ref b4] _ _
    refine xt_ifnonnull (tgt := 12) dX10_beat_7 (by decide) ?_
    refine xt_aload_n (j := 0) dX10_beat_12 rfl rfl ?_
    obtain ⟨ho5, H⟩ := H
    refine xt_callV (h2 := h) (as := []) (st := []) dX10_beat_13 (mlX10_152 rfl) rfl ho5.1 ⟨by rw [ho5.2]; rfl, by rw [ho5.2]; decide⟩ (by first | decide | (simp [Value.category]; done)) (Nat.le_refl _) H (fun r M6 HH hE => ?_)
    obtain ⟨r7, hr, H⟩ := HH hE
    subst hr
    have ho1 := ok_E ho1 hE
    have ho5 := ok_E ho5 hE
    show T _ _ _ _ [.int r7] _ _
    refine xt_if_eq (tgt := 22) dX10_beat_16 (by decide) (fun hc => ?_) (fun hc => ?_)
    · have H := H.1 hc
      refine xt_aload_n (j := 0) dX10_beat_22 rfl rfl ?_
      refine xt_callV (h2 := h) (as := []) (st := []) dX10_beat_23 (mlX10_160 rfl) rfl ho5.1 ⟨by rw [ho5.2]; rfl, by rw [ho5.2]; decide⟩ (by first | decide | (simp [Value.category]; done)) (Nat.le_refl _) H (fun r M8 HH hE => ?_)
      obtain ⟨r9, hr, H⟩ := HH hE
      subst hr
      have ho1 := ok_E ho1 hE
      have ho5 := ok_E ho5 hE
      show T _ _ _ _ [.int r9] _ _
      exact xt_ireturn dX10_beat_26 rfl H
    · have H := H.2 hc
      refine xt_bipush (v := -2) dX10_beat_19 (by decide) ?_
      exact xt_ireturn dX10_beat_21 rfl H
theorem KX10_beat {h : Nat} {x0 : Nat} {x1 : Int32} {M : Mem} {Q : Option Value → Mem → Prop} (H : DX10_beat_0 h x0 x1 M Q) : E (h + 1) mdX10_beat [.ref x0, .int x1] M Q := E.of (by decide) (Nat.le_of_ble_eq_true rfl) (fun _ _ _ => trivial) (VX10_beat_0 H)
def DX10_present_21 (h : Nat) (M : Mem) (Q : Option Value → Mem → Prop) : Prop :=
  Q (some (.int (-1))) M
set_option maxRecDepth 20000 in
set_option maxHeartbeats 2000000 in
theorem VX10_present_21 {h : Nat} {M : Mem} {Q : Option Value → Mem → Prop} (H : DX10_present_21 h  M Q) : T (h + 1) mdX10_present 21 [] [] M Q := by
  unfold DX10_present_21 at H
  refine xt_iconst (v := -1) dX10_present_21 (by decide) ?_
  exact xt_ireturn dX10_present_22 rfl H
def DX10_present_0 (h : Nat) (x0 : Nat) (x1 : Int32) (x2 : Int32) (M : Mem) (Q : Option Value → Mem → Prop) : Prop :=
  ok M x0 12 ∧ E h mdX10_governorAt [.ref x0, .int x1] M (fun r M2 => mE M M2 → ∃ o3 : Option Nat, r = some (va_rf o3) ∧ (o3 = none → DX10_present_21 h  M2 Q) ∧
  (∀ b4 : Nat, o3 = some b4 → ok M2 b4 4 ∧ ∃ b6 : Nat, mR M2 b4 0 = some b6 ∧ ok M2 b6 3 ∧ E h mdX1_hasSignal [.ref b6, .int x2] M2 (fun r M8 => mE M2 M8 → ∃ r9 : Int32, r = some (.int r9) ∧ (¬ r9 = 0 → Q (some (.int ((((mI M8 b4 10 : Int32).toUInt32 >>> ((x2 : Int32).toUInt32 &&& Int32.toUInt32 31)).toInt32) &&& 1))) M8) ∧
  (r9 = 0 → DX10_present_21 h  M8 Q))))
set_option maxRecDepth 20000 in
set_option maxHeartbeats 2000000 in
theorem VX10_present_0 {h : Nat} {x0 : Nat} {x1 : Int32} {x2 : Int32} {M : Mem} {Q : Option Value → Mem → Prop} (H : DX10_present_0 h x0 x1 x2 M Q) : T (h + 1) mdX10_present 0 [(0, .ref x0), (1, .int x1), (2, .int x2)] [] M Q := by
  unfold DX10_present_0 at H
  refine xt_aload_n (j := 0) dX10_present_0 rfl rfl ?_
  refine xt_iload_n (j := 1) dX10_present_1 rfl rfl ?_
  obtain ⟨ho1, H⟩ := H
  refine xt_callV (h2 := h) (as := [.int x1]) (st := []) dX10_present_2 (mlX10_142 rfl) rfl ho1.1 ⟨by rw [ho1.2]; rfl, by rw [ho1.2]; decide⟩ (by first | decide | (simp [Value.category]; done)) (Nat.le_refl _) H (fun r M2 HH hE => ?_)
  obtain ⟨o3, hr, H⟩ := HH hE
  subst hr
  have ho1 := ok_E ho1 hE
  show T _ _ _ _ [va_rf o3] _ _
  refine xt_astore_nO (lv' := [(3, va_rf o3), (0, .ref x0), (1, .int x1), (2, .int x2)]) dX10_present_5 rfl (by decide) rfl ?_
  refine xt_aload_nO (j := 0) dX10_present_6 rfl rfl ?_
  rcases ho : o3 with _ | b4
  · have H := H.1 ho
    try rw [ho]
    show T _ _ _ [(3, .null), (0, .ref x0), (1, .int x1), (2, .int x2)] [.null] _ _
    refine xt_ifnullN (tgt := 21) dX10_present_7 (by decide) ?_
    exact xt_sub [] rfl (VX10_present_21 H)
  · have H := H.2 _ ho
    try rw [ho]
    show T _ _ _ [(3, .ref b4), (0, .ref x0), (1, .int x1), (2, .int x2)] [.ref b4] _ _
    refine xt_ifnull dX10_present_7 ?_
    refine xt_aload_n (j := 0) dX10_present_10 rfl rfl ?_
    obtain ⟨ho5, H⟩ := H
    obtain ⟨b6, hb, H⟩ := H
    refine xt_getR dX10_present_11 (flX10_146 rfl) ft_4_0 ho5.1 ho5.2 hb ?_
    refine xt_iload_n (j := 3) dX10_present_14 rfl rfl ?_
    obtain ⟨ho7, H⟩ := H
    refine xt_callV (h2 := h) (as := [.int x2]) (st := []) dX10_present_15 (mlX10_163 rfl) rfl ho7.1 ⟨by rw [ho7.2]; rfl, by rw [ho7.2]; decide⟩ (by first | decide | (simp [Value.category]; done)) (Nat.le_refl _) H (fun r M8 HH hE => ?_)
    obtain ⟨r9, hr, H⟩ := HH hE
    subst hr
    have ho1 := ok_E ho1 hE
    have ho5 := ok_E ho5 hE
    show T _ _ _ _ [.int r9] _ _
    refine xt_if_ne (tgt := 23) dX10_present_18 (by decide) (fun hc => ?_) (fun hc => ?_)
    · have H := H.1 hc
      refine xt_aload_n (j := 0) dX10_present_23 rfl rfl ?_
      refine xt_getI dX10_present_24 (flX10_166 rfl) ft_4_10 ho5.1 ho5.2 ?_
      refine xt_iload_n (j := 3) dX10_present_27 rfl rfl ?_
      refine xt_iushr dX10_present_28 ?_
      refine xt_iconst (v := 1) dX10_present_29 (by decide) ?_
      refine xt_iand dX10_present_30 ?_
      exact xt_ireturn dX10_present_31 rfl H
    · have H := H.2 hc
      exact xt_sub [] rfl (VX10_present_21 H)
theorem KX10_present {h : Nat} {x0 : Nat} {x1 : Int32} {x2 : Int32} {M : Mem} {Q : Option Value → Mem → Prop} (H : DX10_present_0 h x0 x1 x2 M Q) : E (h + 1) mdX10_present [.ref x0, .int x1, .int x2] M Q := E.of (by decide) (Nat.le_of_ble_eq_true rfl) (fun _ _ _ => trivial) (VX10_present_0 H)
def DX10_value_21 (h : Nat) (M : Mem) (Q : Option Value → Mem → Prop) : Prop :=
  Q (some (.int 0)) M
set_option maxRecDepth 20000 in
set_option maxHeartbeats 2000000 in
theorem VX10_value_21 {h : Nat} {M : Mem} {Q : Option Value → Mem → Prop} (H : DX10_value_21 h  M Q) : T (h + 1) mdX10_value 21 [] [] M Q := by
  unfold DX10_value_21 at H
  refine xt_iconst (v := 0) dX10_value_21 (by decide) ?_
  exact xt_ireturn dX10_value_22 rfl H
def DX10_value_0 (h : Nat) (x0 : Nat) (x1 : Int32) (x2 : Int32) (M : Mem) (Q : Option Value → Mem → Prop) : Prop :=
  ok M x0 12 ∧ E h mdX10_governorAt [.ref x0, .int x1] M (fun r M2 => mE M M2 → ∃ o3 : Option Nat, r = some (va_rf o3) ∧ (o3 = none → DX10_value_21 h  M2 Q) ∧
  (∀ b4 : Nat, o3 = some b4 → ok M2 b4 4 ∧ ∃ b6 : Nat, mR M2 b4 0 = some b6 ∧ ok M2 b6 3 ∧ E h mdX1_hasSignal [.ref b6, .int x2] M2 (fun r M8 => mE M2 M8 → ∃ r9 : Int32, r = some (.int r9) ∧ (¬ r9 = 0 → ∃ b10 : Nat, mR M8 b4 2 = some b10 ∧ ok M8 b10 21 ∧ vp_in (4 + x2) (mL M8 b10) ∧ Q (some (.int (mAI M8 b10 (4 + x2 : Int32).toNatClampNeg))) M8) ∧
  (r9 = 0 → DX10_value_21 h  M8 Q))))
set_option maxRecDepth 20000 in
set_option maxHeartbeats 2000000 in
theorem VX10_value_0 {h : Nat} {x0 : Nat} {x1 : Int32} {x2 : Int32} {M : Mem} {Q : Option Value → Mem → Prop} (H : DX10_value_0 h x0 x1 x2 M Q) : T (h + 1) mdX10_value 0 [(0, .ref x0), (1, .int x1), (2, .int x2)] [] M Q := by
  unfold DX10_value_0 at H
  refine xt_aload_n (j := 0) dX10_value_0 rfl rfl ?_
  refine xt_iload_n (j := 1) dX10_value_1 rfl rfl ?_
  obtain ⟨ho1, H⟩ := H
  refine xt_callV (h2 := h) (as := [.int x1]) (st := []) dX10_value_2 (mlX10_142 rfl) rfl ho1.1 ⟨by rw [ho1.2]; rfl, by rw [ho1.2]; decide⟩ (by first | decide | (simp [Value.category]; done)) (Nat.le_refl _) H (fun r M2 HH hE => ?_)
  obtain ⟨o3, hr, H⟩ := HH hE
  subst hr
  have ho1 := ok_E ho1 hE
  show T _ _ _ _ [va_rf o3] _ _
  refine xt_astore_nO (lv' := [(3, va_rf o3), (0, .ref x0), (1, .int x1), (2, .int x2)]) dX10_value_5 rfl (by decide) rfl ?_
  refine xt_aload_nO (j := 0) dX10_value_6 rfl rfl ?_
  rcases ho : o3 with _ | b4
  · have H := H.1 ho
    try rw [ho]
    show T _ _ _ [(3, .null), (0, .ref x0), (1, .int x1), (2, .int x2)] [.null] _ _
    refine xt_ifnullN (tgt := 21) dX10_value_7 (by decide) ?_
    exact xt_sub [] rfl (VX10_value_21 H)
  · have H := H.2 _ ho
    try rw [ho]
    show T _ _ _ [(3, .ref b4), (0, .ref x0), (1, .int x1), (2, .int x2)] [.ref b4] _ _
    refine xt_ifnull dX10_value_7 ?_
    refine xt_aload_n (j := 0) dX10_value_10 rfl rfl ?_
    obtain ⟨ho5, H⟩ := H
    obtain ⟨b6, hb, H⟩ := H
    refine xt_getR dX10_value_11 (flX10_146 rfl) ft_4_0 ho5.1 ho5.2 hb ?_
    refine xt_iload_n (j := 3) dX10_value_14 rfl rfl ?_
    obtain ⟨ho7, H⟩ := H
    refine xt_callV (h2 := h) (as := [.int x2]) (st := []) dX10_value_15 (mlX10_163 rfl) rfl ho7.1 ⟨by rw [ho7.2]; rfl, by rw [ho7.2]; decide⟩ (by first | decide | (simp [Value.category]; done)) (Nat.le_refl _) H (fun r M8 HH hE => ?_)
    obtain ⟨r9, hr, H⟩ := HH hE
    subst hr
    have ho1 := ok_E ho1 hE
    have ho5 := ok_E ho5 hE
    show T _ _ _ _ [.int r9] _ _
    refine xt_if_ne (tgt := 23) dX10_value_18 (by decide) (fun hc => ?_) (fun hc => ?_)
    · have H := H.1 hc
      refine xt_aload_n (j := 0) dX10_value_23 rfl rfl ?_
      obtain ⟨b10, hb, H⟩ := H
      refine xt_getR dX10_value_24 (flX10_169 rfl) ft_4_2 ho5.1 ho5.2 hb ?_
      refine xt_iconst (v := 4) dX10_value_27 (by decide) ?_
      refine xt_iload_n (j := 3) dX10_value_28 rfl rfl ?_
      refine xt_iadd dX10_value_29 ?_
      obtain ⟨ho11, H⟩ := H
      obtain ⟨hi, H⟩ := H
      refine xt_iald dX10_value_30 ho11.1 ho11.2 hi ?_
      exact xt_ireturn dX10_value_31 rfl H
    · have H := H.2 hc
      exact xt_sub [] rfl (VX10_value_21 H)
theorem KX10_value {h : Nat} {x0 : Nat} {x1 : Int32} {x2 : Int32} {M : Mem} {Q : Option Value → Mem → Prop} (H : DX10_value_0 h x0 x1 x2 M Q) : E (h + 1) mdX10_value [.ref x0, .int x1, .int x2] M Q := E.of (by decide) (Nat.le_of_ble_eq_true rfl) (fun _ _ _ => trivial) (VX10_value_0 H)
def DX10_variable_25 (h : Nat) (M : Mem) (Q : Option Value → Mem → Prop) : Prop :=
  Q (some (.int 0)) M
set_option maxRecDepth 20000 in
set_option maxHeartbeats 2000000 in
theorem VX10_variable_25 {h : Nat} {M : Mem} {Q : Option Value → Mem → Prop} (H : DX10_variable_25 h  M Q) : T (h + 1) mdX10_variable 25 [] [] M Q := by
  unfold DX10_variable_25 at H
  refine xt_iconst (v := 0) dX10_variable_25 (by decide) ?_
  exact xt_ireturn dX10_variable_26 rfl H
def DX10_variable_0 (h : Nat) (x0 : Nat) (x1 : Int32) (x2 : Int32) (M : Mem) (Q : Option Value → Mem → Prop) : Prop :=
  ok M x0 12 ∧ E h mdX10_governorAt [.ref x0, .int x1] M (fun r M2 => mE M M2 → ∃ o3 : Option Nat, r = some (va_rf o3) ∧ (o3 = none → DX10_variable_25 h  M2 Q) ∧
  (∀ b4 : Nat, o3 = some b4 → (x2 < 0 → DX10_variable_25 h  M2 Q) ∧
  (¬ (x2 < 0) → ok M2 b4 4 ∧ ∃ b6 : Nat, mR M2 b4 0 = some b6 ∧ ok M2 b6 3 ∧ (x2 < (mI M2 b6 12) → ∃ b8 : Nat, mR M2 b4 2 = some b8 ∧ ok M2 b8 21 ∧ vp_in (20 + x2) (mL M2 b8) ∧ Q (some (.int (mAI M2 b8 (20 + x2 : Int32).toNatClampNeg))) M2) ∧
  (¬ (x2 < (mI M2 b6 12)) → DX10_variable_25 h  M2 Q))))
set_option maxRecDepth 20000 in
set_option maxHeartbeats 2000000 in
theorem VX10_variable_0 {h : Nat} {x0 : Nat} {x1 : Int32} {x2 : Int32} {M : Mem} {Q : Option Value → Mem → Prop} (H : DX10_variable_0 h x0 x1 x2 M Q) : T (h + 1) mdX10_variable 0 [(0, .ref x0), (1, .int x1), (2, .int x2)] [] M Q := by
  unfold DX10_variable_0 at H
  refine xt_aload_n (j := 0) dX10_variable_0 rfl rfl ?_
  refine xt_iload_n (j := 1) dX10_variable_1 rfl rfl ?_
  obtain ⟨ho1, H⟩ := H
  refine xt_callV (h2 := h) (as := [.int x1]) (st := []) dX10_variable_2 (mlX10_142 rfl) rfl ho1.1 ⟨by rw [ho1.2]; rfl, by rw [ho1.2]; decide⟩ (by first | decide | (simp [Value.category]; done)) (Nat.le_refl _) H (fun r M2 HH hE => ?_)
  obtain ⟨o3, hr, H⟩ := HH hE
  subst hr
  have ho1 := ok_E ho1 hE
  show T _ _ _ _ [va_rf o3] _ _
  refine xt_astore_nO (lv' := [(3, va_rf o3), (0, .ref x0), (1, .int x1), (2, .int x2)]) dX10_variable_5 rfl (by decide) rfl ?_
  refine xt_aload_nO (j := 0) dX10_variable_6 rfl rfl ?_
  rcases ho : o3 with _ | b4
  · have H := H.1 ho
    try rw [ho]
    show T _ _ _ [(3, .null), (0, .ref x0), (1, .int x1), (2, .int x2)] [.null] _ _
    refine xt_ifnullN (tgt := 25) dX10_variable_7 (by decide) ?_
    exact xt_sub [] rfl (VX10_variable_25 H)
  · have H := H.2 _ ho
    try rw [ho]
    show T _ _ _ [(3, .ref b4), (0, .ref x0), (1, .int x1), (2, .int x2)] [.ref b4] _ _
    refine xt_ifnull dX10_variable_7 ?_
    refine xt_iload_n (j := 3) dX10_variable_10 rfl rfl ?_
    refine xt_if_lt (tgt := 25) dX10_variable_11 (by decide) (fun hc => ?_) (fun hc => ?_)
    · have H := H.1 hc
      exact xt_sub [] rfl (VX10_variable_25 H)
    · have H := H.2 hc
      refine xt_iload_n (j := 3) dX10_variable_14 rfl rfl ?_
      refine xt_aload_n (j := 0) dX10_variable_15 rfl rfl ?_
      obtain ⟨ho5, H⟩ := H
      obtain ⟨b6, hb, H⟩ := H
      refine xt_getR dX10_variable_16 (flX10_146 rfl) ft_4_0 ho5.1 ho5.2 hb ?_
      obtain ⟨ho7, H⟩ := H
      refine xt_getI dX10_variable_19 (flX10_109 rfl) ft_3_12 ho7.1 ho7.2 ?_
      refine xt_icmp_lt (tgt := 27) dX10_variable_22 (by decide) (fun hc => ?_) (fun hc => ?_)
      · have H := H.1 hc
        refine xt_aload_n (j := 0) dX10_variable_27 rfl rfl ?_
        obtain ⟨b8, hb, H⟩ := H
        refine xt_getR dX10_variable_28 (flX10_169 rfl) ft_4_2 ho5.1 ho5.2 hb ?_
        refine xt_bipush (v := 20) dX10_variable_31 (by decide) ?_
        refine xt_iload_n (j := 3) dX10_variable_33 rfl rfl ?_
        refine xt_iadd dX10_variable_34 ?_
        obtain ⟨ho9, H⟩ := H
        obtain ⟨hi, H⟩ := H
        refine xt_iald dX10_variable_35 ho9.1 ho9.2 hi ?_
        exact xt_ireturn dX10_variable_36 rfl H
      · have H := H.2 hc
        exact xt_sub [] rfl (VX10_variable_25 H)
theorem KX10_variable {h : Nat} {x0 : Nat} {x1 : Int32} {x2 : Int32} {M : Mem} {Q : Option Value → Mem → Prop} (H : DX10_variable_0 h x0 x1 x2 M Q) : E (h + 1) mdX10_variable [.ref x0, .int x1, .int x2] M Q := E.of (by decide) (Nat.le_of_ble_eq_true rfl) (fun _ _ _ => trivial) (VX10_variable_0 H)
def DX10_wire_24 (h : Nat) (M : Mem) (Q : Option Value → Mem → Prop) : Prop :=
  Q (some (.int (-1))) M
set_option maxRecDepth 20000 in
set_option maxHeartbeats 2000000 in
theorem VX10_wire_24 {h : Nat} {M : Mem} {Q : Option Value → Mem → Prop} (H : DX10_wire_24 h  M Q) : T (h + 1) mdX10_wire 24 [] [] M Q := by
  unfold DX10_wire_24 at H
  refine xt_iconst (v := -1) dX10_wire_24 (by decide) ?_
  exact xt_ireturn dX10_wire_25 rfl H
def DX10_wire_35 (h : Nat) (M : Mem) (Q : Option Value → Mem → Prop) : Prop :=
  Q (some (.int (-1))) M
set_option maxRecDepth 20000 in
set_option maxHeartbeats 2000000 in
theorem VX10_wire_35 {h : Nat} {M : Mem} {Q : Option Value → Mem → Prop} (H : DX10_wire_35 h  M Q) : T (h + 1) mdX10_wire 35 [] [] M Q := by
  unfold DX10_wire_35 at H
  refine xt_iconst (v := -1) dX10_wire_35 (by decide) ?_
  exact xt_ireturn dX10_wire_36 rfl H
def DX10_wire_0 (h : Nat) (x0 : Nat) (x1 : Int32) (x2 : Int32) (x3 : Int32) (M : Mem) (Q : Option Value → Mem → Prop) : Prop :=
  ok M x0 12 ∧ E h mdX10_governorAt [.ref x0, .int x1] M (fun r M2 => mE M M2 → ∃ o3 : Option Nat, r = some (va_rf o3) ∧ (o3 = none → DX10_wire_24 h  M2 Q) ∧
  (∀ b4 : Nat, o3 = some b4 → ok M2 b4 4 ∧ ∃ b6 : Nat, mR M2 b4 0 = some b6 ∧ ok M2 b6 3 ∧ E h mdX1_hasPart [.ref b6, .int x2] M2 (fun r M8 => mE M2 M8 → ∃ r9 : Int32, r = some (.int r9) ∧ (¬ r9 = 0 → (x3 < 0 → DX10_wire_35 h  M8 Q) ∧
  (¬ (x3 < 0) → (x3 < 5 → E h mdX2_wireOf [.ref b4, .int x2, .int x3] M8 (fun r M10 => mE M8 M10 → ∃ r11 : Int32, r = some (.int r11) ∧ Q (some (.int r11)) M10)) ∧
  (¬ (x3 < 5) → DX10_wire_35 h  M8 Q))) ∧
  (r9 = 0 → DX10_wire_24 h  M8 Q))))
set_option maxRecDepth 20000 in
set_option maxHeartbeats 2000000 in
theorem VX10_wire_0 {h : Nat} {x0 : Nat} {x1 : Int32} {x2 : Int32} {x3 : Int32} {M : Mem} {Q : Option Value → Mem → Prop} (H : DX10_wire_0 h x0 x1 x2 x3 M Q) : T (h + 1) mdX10_wire 0 [(0, .ref x0), (1, .int x1), (2, .int x2), (3, .int x3)] [] M Q := by
  unfold DX10_wire_0 at H
  refine xt_aload_n (j := 0) dX10_wire_0 rfl rfl ?_
  refine xt_iload_n (j := 1) dX10_wire_1 rfl rfl ?_
  obtain ⟨ho1, H⟩ := H
  refine xt_callV (h2 := h) (as := [.int x1]) (st := []) dX10_wire_2 (mlX10_142 rfl) rfl ho1.1 ⟨by rw [ho1.2]; rfl, by rw [ho1.2]; decide⟩ (by first | decide | (simp [Value.category]; done)) (Nat.le_refl _) H (fun r M2 HH hE => ?_)
  obtain ⟨o3, hr, H⟩ := HH hE
  subst hr
  have ho1 := ok_E ho1 hE
  show T _ _ _ _ [va_rf o3] _ _
  refine xt_astoreO (lv' := [(4, va_rf o3), (0, .ref x0), (1, .int x1), (2, .int x2), (3, .int x3)]) dX10_wire_5 (by decide) rfl ?_
  refine xt_aloadO (j := 0) dX10_wire_7 rfl ?_
  rcases ho : o3 with _ | b4
  · have H := H.1 ho
    try rw [ho]
    show T _ _ _ [(4, .null), (0, .ref x0), (1, .int x1), (2, .int x2), (3, .int x3)] [.null] _ _
    refine xt_ifnullN (tgt := 24) dX10_wire_9 (by decide) ?_
    exact xt_sub [] rfl (VX10_wire_24 H)
  · have H := H.2 _ ho
    try rw [ho]
    show T _ _ _ [(4, .ref b4), (0, .ref x0), (1, .int x1), (2, .int x2), (3, .int x3)] [.ref b4] _ _
    refine xt_ifnull dX10_wire_9 ?_
    refine xt_aload (j := 0) dX10_wire_12 rfl ?_
    obtain ⟨ho5, H⟩ := H
    obtain ⟨b6, hb, H⟩ := H
    refine xt_getR dX10_wire_14 (flX10_146 rfl) ft_4_0 ho5.1 ho5.2 hb ?_
    refine xt_iload_n (j := 3) dX10_wire_17 rfl rfl ?_
    obtain ⟨ho7, H⟩ := H
    refine xt_callV (h2 := h) (as := [.int x2]) (st := []) dX10_wire_18 (mlX10_124 rfl) rfl ho7.1 ⟨by rw [ho7.2]; rfl, by rw [ho7.2]; decide⟩ (by first | decide | (simp [Value.category]; done)) (Nat.le_refl _) H (fun r M8 HH hE => ?_)
    obtain ⟨r9, hr, H⟩ := HH hE
    subst hr
    have ho1 := ok_E ho1 hE
    have ho5 := ok_E ho5 hE
    show T _ _ _ _ [.int r9] _ _
    refine xt_if_ne (tgt := 26) dX10_wire_21 (by decide) (fun hc => ?_) (fun hc => ?_)
    · have H := H.1 hc
      refine xt_iload_n (j := 4) dX10_wire_26 rfl rfl ?_
      refine xt_if_lt (tgt := 35) dX10_wire_27 (by decide) (fun hc => ?_) (fun hc => ?_)
      · have H := H.1 hc
        exact xt_sub [] rfl (VX10_wire_35 H)
      · have H := H.2 hc
        refine xt_iload_n (j := 4) dX10_wire_30 rfl rfl ?_
        refine xt_iconst (v := 5) dX10_wire_31 (by decide) ?_
        refine xt_icmp_lt (tgt := 37) dX10_wire_32 (by decide) (fun hc => ?_) (fun hc => ?_)
        · have H := H.1 hc
          refine xt_aload (j := 0) dX10_wire_37 rfl ?_
          refine xt_iload_n (j := 3) dX10_wire_39 rfl rfl ?_
          refine xt_iload_n (j := 4) dX10_wire_40 rfl rfl ?_
          refine xt_callV (h2 := h) (as := [.int x2, .int x3]) (st := []) dX10_wire_41 (mlX10_173 rfl) rfl ho5.1 ⟨by rw [ho5.2]; rfl, by rw [ho5.2]; decide⟩ (by first | decide | (simp [Value.category]; done)) (Nat.le_refl _) H (fun r M10 HH hE => ?_)
          obtain ⟨r11, hr, H⟩ := HH hE
          subst hr
          have ho1 := ok_E ho1 hE
          have ho5 := ok_E ho5 hE
          show T _ _ _ _ [.int r11] _ _
          exact xt_ireturn dX10_wire_44 rfl H
        · have H := H.2 hc
          exact xt_sub [] rfl (VX10_wire_35 H)
    · have H := H.2 hc
      exact xt_sub [] rfl (VX10_wire_24 H)
theorem KX10_wire {h : Nat} {x0 : Nat} {x1 : Int32} {x2 : Int32} {x3 : Int32} {M : Mem} {Q : Option Value → Mem → Prop} (H : DX10_wire_0 h x0 x1 x2 x3 M Q) : E (h + 1) mdX10_wire [.ref x0, .int x1, .int x2, .int x3] M Q := E.of (by decide) (Nat.le_of_ble_eq_true rfl) (fun _ _ _ => trivial) (VX10_wire_0 H)
def DX10_told_0 (h : Nat) (x0 : Nat) (x1 : Int32) (x2 : Int32) (M : Mem) (Q : Option Value → Mem → Prop) : Prop :=
  ok M x0 12 ∧ E h mdX10_governorAt [.ref x0, .int x1] M (fun r M2 => mE M M2 → ∃ o3 : Option Nat, r = some (va_rf o3) ∧ (o3 = none → Q (some (.int (-1))) M2) ∧
  (∀ b4 : Nat, o3 = some b4 → (x2 = 0 → ok M2 b4 4 ∧ ∃ b6 : Nat, mR M2 b4 2 = some b6 ∧ ok M2 b6 21 ∧ vp_in 2 (mL M2 b6) ∧ Q (some (.int (mAI M2 b6 (2 : Int32).toNatClampNeg))) M2) ∧
  (x2 = 1 → ok M2 b4 4 ∧ ∃ b9 : Nat, mR M2 b4 2 = some b9 ∧ ok M2 b9 21 ∧ vp_in 0 (mL M2 b9) ∧ E h mdJ6_bitCount_0f7a4 [.int (mAI M2 b9 (0 : Int32).toNatClampNeg)] M2 (fun r M11 => mE M2 M11 → ∃ r12 : Int32, r = some (.int r12) ∧ Q (some (.int r12)) M11)) ∧
  (x2 = 2 → ok M2 b4 4 ∧ ∃ b14 : Nat, mR M2 b4 2 = some b14 ∧ ok M2 b14 21 ∧ vp_in 3 (mL M2 b14) ∧ Q (some (.int (mAI M2 b14 (3 : Int32).toNatClampNeg))) M2) ∧
  (x2 = 3 → ok M2 b4 4 ∧ Q (some (.int (mI M2 b4 11))) M2) ∧
  (x2 = 4 → ok M2 b4 4 ∧ Q (some (.int (mI M2 b4 12))) M2) ∧
  (x2 = 5 → ok M2 b4 4 ∧ Q (some (.int (mI M2 b4 13))) M2) ∧
  (x2 = 6 → ok M2 b4 4 ∧ Q (some (.int (mI M2 b4 1))) M2) ∧
  (x2 = 7 → ok M2 b4 4 ∧ Q (some (.int (mI M2 b4 5))) M2) ∧
  (((x2 : Int32).toInt < 0 ∨ 7 < (x2 : Int32).toInt) → Q (some (.int (-1))) M2)))
set_option maxRecDepth 20000 in
set_option maxHeartbeats 2000000 in
theorem VX10_told_0 {h : Nat} {x0 : Nat} {x1 : Int32} {x2 : Int32} {M : Mem} {Q : Option Value → Mem → Prop} (H : DX10_told_0 h x0 x1 x2 M Q) : T (h + 1) mdX10_told 0 [(0, .ref x0), (1, .int x1), (2, .int x2)] [] M Q := by
  unfold DX10_told_0 at H
  refine xt_aload_n (j := 0) dX10_told_0 rfl rfl ?_
  refine xt_iload_n (j := 1) dX10_told_1 rfl rfl ?_
  obtain ⟨ho1, H⟩ := H
  refine xt_callV (h2 := h) (as := [.int x1]) (st := []) dX10_told_2 (mlX10_142 rfl) rfl ho1.1 ⟨by rw [ho1.2]; rfl, by rw [ho1.2]; decide⟩ (by first | decide | (simp [Value.category]; done)) (Nat.le_refl _) H (fun r M2 HH hE => ?_)
  obtain ⟨o3, hr, H⟩ := HH hE
  subst hr
  have ho1 := ok_E ho1 hE
  show T _ _ _ _ [va_rf o3] _ _
  refine xt_astore_nO (lv' := [(3, va_rf o3), (0, .ref x0), (1, .int x1), (2, .int x2)]) dX10_told_5 rfl (by decide) rfl ?_
  refine xt_aload_nO (j := 0) dX10_told_6 rfl rfl ?_
  rcases ho : o3 with _ | b4
  · have H := H.1 ho
    try rw [ho]
    show T _ _ _ [(3, .null), (0, .ref x0), (1, .int x1), (2, .int x2)] [.null] _ _
    refine xt_ifnonnullN dX10_told_7 ?_
    refine xt_iconst (v := -1) dX10_told_10 (by decide) ?_
    exact xt_ireturn dX10_told_11 rfl H
  · have H := H.2 _ ho
    try rw [ho]
    show T _ _ _ [(3, .ref b4), (0, .ref x0), (1, .int x1), (2, .int x2)] [.ref b4] _ _
    refine xt_ifnonnull (tgt := 12) dX10_told_7 (by decide) ?_
    refine xt_iload_n (j := 3) dX10_told_12 rfl rfl ?_
    by_cases hsw : (x2 : Int32).toInt < 0 ∨ 7 < (x2 : Int32).toInt
    · refine xt_tableOut (tgt := 109) dX10_told_13 hsw (by decide) ?_
      have H := H.2.2.2.2.2.2.2.2 hsw
      refine xt_iconst (v := -1) dX10_told_109 (by decide) ?_
      exact xt_ireturn dX10_told_110 rfl H
    · have hsw2 : (x2 : Int32).toInt = 0 ∨ (x2 : Int32).toInt = 1 ∨ (x2 : Int32).toInt = 2 ∨ (x2 : Int32).toInt = 3 ∨ (x2 : Int32).toInt = 4 ∨ (x2 : Int32).toInt = 5 ∨ (x2 : Int32).toInt = 6 ∨ (x2 : Int32).toInt = 7 := by omega
      rcases hsw2 with hv | hv | hv | hv | hv | hv | hv | hv
      · have hx : x2 = 0 := i32_ofInt hv
        have H := H.1 hx
        refine xt_tableIn (tgt := 60) dX10_told_13 (by omega) (by omega) (by rw [hv]; rfl) (by decide) ?_
        refine xt_aload_n (j := 0) dX10_told_60 rfl rfl ?_
        obtain ⟨ho5, H⟩ := H
        obtain ⟨b6, hb, H⟩ := H
        refine xt_getR dX10_told_61 (flX10_169 rfl) ft_4_2 ho5.1 ho5.2 hb ?_
        refine xt_iconst (v := 2) dX10_told_64 (by decide) ?_
        obtain ⟨ho7, H⟩ := H
        obtain ⟨hi, H⟩ := H
        refine xt_iald dX10_told_65 ho7.1 ho7.2 hi ?_
        exact xt_ireturn dX10_told_66 rfl H
      · have hx : x2 = 1 := i32_ofInt hv
        have H := H.2.1 hx
        refine xt_tableIn (tgt := 67) dX10_told_13 (by omega) (by omega) (by rw [hv]; rfl) (by decide) ?_
        refine xt_aload_n (j := 0) dX10_told_67 rfl rfl ?_
        obtain ⟨ho8, H⟩ := H
        obtain ⟨b9, hb, H⟩ := H
        refine xt_getR dX10_told_68 (flX10_169 rfl) ft_4_2 ho8.1 ho8.2 hb ?_
        refine xt_iconst (v := 0) dX10_told_71 (by decide) ?_
        obtain ⟨ho10, H⟩ := H
        obtain ⟨hi, H⟩ := H
        refine xt_iald dX10_told_72 ho10.1 ho10.2 hi ?_
        refine xt_callS (h2 := h) (as := [.int (mAI M2 b9 (0 : Int32).toNatClampNeg)]) (st := []) dX10_told_73 (mlX10_103 rfl) rfl (by first | decide | (simp [Value.category]; done)) (Nat.le_refl _) H (fun r M11 HH hE => ?_)
        obtain ⟨r12, hr, H⟩ := HH hE
        subst hr
        have ho1 := ok_E ho1 hE
        have ho8 := ok_E ho8 hE
        show T _ _ _ _ [.int r12] _ _
        exact xt_ireturn dX10_told_76 rfl H
      · have hx : x2 = 2 := i32_ofInt hv
        have H := H.2.2.1 hx
        refine xt_tableIn (tgt := 77) dX10_told_13 (by omega) (by omega) (by rw [hv]; rfl) (by decide) ?_
        refine xt_aload_n (j := 0) dX10_told_77 rfl rfl ?_
        obtain ⟨ho13, H⟩ := H
        obtain ⟨b14, hb, H⟩ := H
        refine xt_getR dX10_told_78 (flX10_169 rfl) ft_4_2 ho13.1 ho13.2 hb ?_
        refine xt_iconst (v := 3) dX10_told_81 (by decide) ?_
        obtain ⟨ho15, H⟩ := H
        obtain ⟨hi, H⟩ := H
        refine xt_iald dX10_told_82 ho15.1 ho15.2 hi ?_
        exact xt_ireturn dX10_told_83 rfl H
      · have hx : x2 = 3 := i32_ofInt hv
        have H := H.2.2.2.1 hx
        refine xt_tableIn (tgt := 84) dX10_told_13 (by omega) (by omega) (by rw [hv]; rfl) (by decide) ?_
        refine xt_aload_n (j := 0) dX10_told_84 rfl rfl ?_
        obtain ⟨ho16, H⟩ := H
        refine xt_getI dX10_told_85 (flX10_177 rfl) ft_4_11 ho16.1 ho16.2 ?_
        exact xt_ireturn dX10_told_88 rfl H
      · have hx : x2 = 4 := i32_ofInt hv
        have H := H.2.2.2.2.1 hx
        refine xt_tableIn (tgt := 89) dX10_told_13 (by omega) (by omega) (by rw [hv]; rfl) (by decide) ?_
        refine xt_aload_n (j := 0) dX10_told_89 rfl rfl ?_
        obtain ⟨ho17, H⟩ := H
        refine xt_getI dX10_told_90 (flX10_180 rfl) ft_4_12 ho17.1 ho17.2 ?_
        exact xt_ireturn dX10_told_93 rfl H
      · have hx : x2 = 5 := i32_ofInt hv
        have H := H.2.2.2.2.2.1 hx
        refine xt_tableIn (tgt := 94) dX10_told_13 (by omega) (by omega) (by rw [hv]; rfl) (by decide) ?_
        refine xt_aload_n (j := 0) dX10_told_94 rfl rfl ?_
        obtain ⟨ho18, H⟩ := H
        refine xt_getI dX10_told_95 (flX10_183 rfl) ft_4_13 ho18.1 ho18.2 ?_
        exact xt_ireturn dX10_told_98 rfl H
      · have hx : x2 = 6 := i32_ofInt hv
        have H := H.2.2.2.2.2.2.1 hx
        refine xt_tableIn (tgt := 99) dX10_told_13 (by omega) (by omega) (by rw [hv]; rfl) (by decide) ?_
        refine xt_aload_n (j := 0) dX10_told_99 rfl rfl ?_
        obtain ⟨ho19, H⟩ := H
        refine xt_getI dX10_told_100 (flX10_186 rfl) ft_4_1 ho19.1 ho19.2 ?_
        exact xt_ireturn dX10_told_103 rfl H
      · have hx : x2 = 7 := i32_ofInt hv
        have H := H.2.2.2.2.2.2.2.1 hx
        refine xt_tableIn (tgt := 104) dX10_told_13 (by omega) (by omega) (by rw [hv]; rfl) (by decide) ?_
        refine xt_aload_n (j := 0) dX10_told_104 rfl rfl ?_
        obtain ⟨ho20, H⟩ := H
        refine xt_getI dX10_told_105 (flX10_189 rfl) ft_4_5 ho20.1 ho20.2 ?_
        exact xt_ireturn dX10_told_108 rfl H
theorem KX10_told {h : Nat} {x0 : Nat} {x1 : Int32} {x2 : Int32} {M : Mem} {Q : Option Value → Mem → Prop} (H : DX10_told_0 h x0 x1 x2 M Q) : E (h + 1) mdX10_told [.ref x0, .int x1, .int x2] M Q := E.of (by decide) (Nat.le_of_ble_eq_true rfl) (fun _ _ _ => trivial) (VX10_told_0 H)
def DX10_paused_25 (h : Nat) (M : Mem) (Q : Option Value → Mem → Prop) : Prop :=
  Q (some (.int (-1))) M
set_option maxRecDepth 20000 in
set_option maxHeartbeats 2000000 in
theorem VX10_paused_25 {h : Nat} {M : Mem} {Q : Option Value → Mem → Prop} (H : DX10_paused_25 h  M Q) : T (h + 1) mdX10_paused 25 [] [] M Q := by
  unfold DX10_paused_25 at H
  refine xt_iconst (v := -1) dX10_paused_25 (by decide) ?_
  exact xt_ireturn dX10_paused_26 rfl H
def DX10_paused_0 (h : Nat) (x0 : Nat) (x1 : Int32) (x2 : Int32) (M : Mem) (Q : Option Value → Mem → Prop) : Prop :=
  ok M x0 12 ∧ E h mdX10_governorAt [.ref x0, .int x1] M (fun r M2 => mE M M2 → ∃ o3 : Option Nat, r = some (va_rf o3) ∧ (o3 = none → DX10_paused_25 h  M2 Q) ∧
  (∀ b4 : Nat, o3 = some b4 → (x2 < 0 → DX10_paused_25 h  M2 Q) ∧
  (¬ (x2 < 0) → ok M2 b4 4 ∧ ∃ b6 : Nat, mR M2 b4 0 = some b6 ∧ ok M2 b6 3 ∧ (x2 < (mI M2 b6 13) → ∃ b8 : Nat, mR M2 b4 2 = some b8 ∧ ok M2 b8 21 ∧ vp_in 0 (mL M2 b8) ∧ Q (some (.int ((((mAI M2 b8 (0 : Int32).toNatClampNeg : Int32).toUInt32 >>> ((x2 : Int32).toUInt32 &&& Int32.toUInt32 31)).toInt32) &&& 1))) M2) ∧
  (¬ (x2 < (mI M2 b6 13)) → DX10_paused_25 h  M2 Q))))
set_option maxRecDepth 20000 in
set_option maxHeartbeats 2000000 in
theorem VX10_paused_0 {h : Nat} {x0 : Nat} {x1 : Int32} {x2 : Int32} {M : Mem} {Q : Option Value → Mem → Prop} (H : DX10_paused_0 h x0 x1 x2 M Q) : T (h + 1) mdX10_paused 0 [(0, .ref x0), (1, .int x1), (2, .int x2)] [] M Q := by
  unfold DX10_paused_0 at H
  refine xt_aload_n (j := 0) dX10_paused_0 rfl rfl ?_
  refine xt_iload_n (j := 1) dX10_paused_1 rfl rfl ?_
  obtain ⟨ho1, H⟩ := H
  refine xt_callV (h2 := h) (as := [.int x1]) (st := []) dX10_paused_2 (mlX10_142 rfl) rfl ho1.1 ⟨by rw [ho1.2]; rfl, by rw [ho1.2]; decide⟩ (by first | decide | (simp [Value.category]; done)) (Nat.le_refl _) H (fun r M2 HH hE => ?_)
  obtain ⟨o3, hr, H⟩ := HH hE
  subst hr
  have ho1 := ok_E ho1 hE
  show T _ _ _ _ [va_rf o3] _ _
  refine xt_astore_nO (lv' := [(3, va_rf o3), (0, .ref x0), (1, .int x1), (2, .int x2)]) dX10_paused_5 rfl (by decide) rfl ?_
  refine xt_aload_nO (j := 0) dX10_paused_6 rfl rfl ?_
  rcases ho : o3 with _ | b4
  · have H := H.1 ho
    try rw [ho]
    show T _ _ _ [(3, .null), (0, .ref x0), (1, .int x1), (2, .int x2)] [.null] _ _
    refine xt_ifnullN (tgt := 25) dX10_paused_7 (by decide) ?_
    exact xt_sub [] rfl (VX10_paused_25 H)
  · have H := H.2 _ ho
    try rw [ho]
    show T _ _ _ [(3, .ref b4), (0, .ref x0), (1, .int x1), (2, .int x2)] [.ref b4] _ _
    refine xt_ifnull dX10_paused_7 ?_
    refine xt_iload_n (j := 3) dX10_paused_10 rfl rfl ?_
    refine xt_if_lt (tgt := 25) dX10_paused_11 (by decide) (fun hc => ?_) (fun hc => ?_)
    · have H := H.1 hc
      exact xt_sub [] rfl (VX10_paused_25 H)
    · have H := H.2 hc
      refine xt_iload_n (j := 3) dX10_paused_14 rfl rfl ?_
      refine xt_aload_n (j := 0) dX10_paused_15 rfl rfl ?_
      obtain ⟨ho5, H⟩ := H
      obtain ⟨b6, hb, H⟩ := H
      refine xt_getR dX10_paused_16 (flX10_146 rfl) ft_4_0 ho5.1 ho5.2 hb ?_
      obtain ⟨ho7, H⟩ := H
      refine xt_getI dX10_paused_19 (flX10_115 rfl) ft_3_13 ho7.1 ho7.2 ?_
      refine xt_icmp_lt (tgt := 27) dX10_paused_22 (by decide) (fun hc => ?_) (fun hc => ?_)
      · have H := H.1 hc
        refine xt_aload_n (j := 0) dX10_paused_27 rfl rfl ?_
        obtain ⟨b8, hb, H⟩ := H
        refine xt_getR dX10_paused_28 (flX10_169 rfl) ft_4_2 ho5.1 ho5.2 hb ?_
        refine xt_iconst (v := 0) dX10_paused_31 (by decide) ?_
        obtain ⟨ho9, H⟩ := H
        obtain ⟨hi, H⟩ := H
        refine xt_iald dX10_paused_32 ho9.1 ho9.2 hi ?_
        refine xt_iload_n (j := 3) dX10_paused_33 rfl rfl ?_
        refine xt_iushr dX10_paused_34 ?_
        refine xt_iconst (v := 1) dX10_paused_35 (by decide) ?_
        refine xt_iand dX10_paused_36 ?_
        exact xt_ireturn dX10_paused_37 rfl H
      · have H := H.2 hc
        exact xt_sub [] rfl (VX10_paused_25 H)
theorem KX10_paused {h : Nat} {x0 : Nat} {x1 : Int32} {x2 : Int32} {M : Mem} {Q : Option Value → Mem → Prop} (H : DX10_paused_0 h x0 x1 x2 M Q) : E (h + 1) mdX10_paused [.ref x0, .int x1, .int x2] M Q := E.of (by decide) (Nat.le_of_ble_eq_true rfl) (fun _ _ _ => trivial) (VX10_paused_0 H)
def DX10_keep_0 (h : Nat) (x0 : Nat) (x1 : Int32) (M : Mem) (Q : Option Value → Mem → Prop) : Prop :=
  ok M x0 12 ∧ E h mdX10_governorAt [.ref x0, .int x1] M (fun r M2 => mE M M2 → ∃ o3 : Option Nat, r = some (va_rf o3) ∧ (o3 = none → Q (some (.int (-1))) M2) ∧
  (∀ b4 : Nat, o3 = some b4 → ok M2 b4 4 ∧ ((mI M2 b4 5) < 3 → E h mdX2_store [.ref b4] M2 (fun r M6 => mE M2 M6 → r = none ∧ Q (some (.int (mI M6 b4 5))) M6)) ∧
  (¬ ((mI M2 b4 5) < 3) → Q (some (.int (-3))) M2)))
set_option maxRecDepth 20000 in
set_option maxHeartbeats 2000000 in
theorem VX10_keep_0 {h : Nat} {x0 : Nat} {x1 : Int32} {M : Mem} {Q : Option Value → Mem → Prop} (H : DX10_keep_0 h x0 x1 M Q) : T (h + 1) mdX10_keep 0 [(0, .ref x0), (1, .int x1)] [] M Q := by
  unfold DX10_keep_0 at H
  refine xt_aload_n (j := 0) dX10_keep_0 rfl rfl ?_
  refine xt_iload_n (j := 1) dX10_keep_1 rfl rfl ?_
  obtain ⟨ho1, H⟩ := H
  refine xt_callV (h2 := h) (as := [.int x1]) (st := []) dX10_keep_2 (mlX10_142 rfl) rfl ho1.1 ⟨by rw [ho1.2]; rfl, by rw [ho1.2]; decide⟩ (by first | decide | (simp [Value.category]; done)) (Nat.le_refl _) H (fun r M2 HH hE => ?_)
  obtain ⟨o3, hr, H⟩ := HH hE
  subst hr
  have ho1 := ok_E ho1 hE
  show T _ _ _ _ [va_rf o3] _ _
  refine xt_astore_nO (lv' := [(2, va_rf o3), (0, .ref x0), (1, .int x1)]) dX10_keep_5 rfl (by decide) rfl ?_
  refine xt_aload_nO (j := 0) dX10_keep_6 rfl rfl ?_
  rcases ho : o3 with _ | b4
  · have H := H.1 ho
    try rw [ho]
    show T _ _ _ [(2, .null), (0, .ref x0), (1, .int x1)] [.null] _ _
    refine xt_ifnonnullN dX10_keep_7 ?_
    refine xt_iconst (v := -1) dX10_keep_10 (by decide) ?_
    exact xt_ireturn dX10_keep_11 rfl H
  · have H := H.2 _ ho
    try rw [ho]
    show T _ _ _ [(2, .ref b4), (0, .ref x0), (1, .int x1)] [.ref b4] _ _
    refine xt_ifnonnull (tgt := 12) dX10_keep_7 (by decide) ?_
    refine xt_aload_n (j := 0) dX10_keep_12 rfl rfl ?_
    obtain ⟨ho5, H⟩ := H
    refine xt_getI dX10_keep_13 (flX10_189 rfl) ft_4_5 ho5.1 ho5.2 ?_
    refine xt_iconst (v := 3) dX10_keep_16 (by decide) ?_
    refine xt_icmp_lt (tgt := 23) dX10_keep_17 (by decide) (fun hc => ?_) (fun hc => ?_)
    · have H := H.1 hc
      refine xt_aload_n (j := 0) dX10_keep_23 rfl rfl ?_
      refine xt_callV (h2 := h) (as := []) (st := []) dX10_keep_24 (mlX10_192 rfl) rfl ho5.1 ⟨by rw [ho5.2]; rfl, by rw [ho5.2]; decide⟩ (by first | decide | (simp [Value.category]; done)) (Nat.le_refl _) H (fun r M6 HH hE => ?_)
      obtain ⟨hr, H⟩ := HH hE
      subst hr
      have ho1 := ok_E ho1 hE
      have ho5 := ok_E ho5 hE
      show T _ _ _ _ [] _ _
      refine xt_aload_n (j := 0) dX10_keep_27 rfl rfl ?_
      refine xt_getI dX10_keep_28 (flX10_189 rfl) ft_4_5 ho5.1 ho5.2 ?_
      exact xt_ireturn dX10_keep_31 rfl H
    · have H := H.2 hc
      refine xt_bipush (v := -3) dX10_keep_20 (by decide) ?_
      exact xt_ireturn dX10_keep_22 rfl H
theorem KX10_keep {h : Nat} {x0 : Nat} {x1 : Int32} {M : Mem} {Q : Option Value → Mem → Prop} (H : DX10_keep_0 h x0 x1 M Q) : E (h + 1) mdX10_keep [.ref x0, .int x1] M Q := E.of (by decide) (Nat.le_of_ble_eq_true rfl) (fun _ _ _ => trivial) (VX10_keep_0 H)
def DX10_back_0 (h : Nat) (x0 : Nat) (x1 : Int32) (M : Mem) (Q : Option Value → Mem → Prop) : Prop :=
  ok M x0 12 ∧ E h mdX10_governorAt [.ref x0, .int x1] M (fun r M2 => mE M M2 → ∃ o3 : Option Nat, r = some (va_rf o3) ∧ (o3 = none → Q (some (.int (-1))) M2) ∧
  (∀ b4 : Nat, o3 = some b4 → ok M2 b4 4 ∧ (¬ (mI M2 b4 5) = 0 → E h mdX2_restore [.ref b4] M2 (fun r M6 => mE M2 M6 → r = none ∧ Q (some (.int (mI M6 b4 5))) M6)) ∧
  ((mI M2 b4 5) = 0 → Q (some (.int (-2))) M2)))
set_option maxRecDepth 20000 in
set_option maxHeartbeats 2000000 in
theorem VX10_back_0 {h : Nat} {x0 : Nat} {x1 : Int32} {M : Mem} {Q : Option Value → Mem → Prop} (H : DX10_back_0 h x0 x1 M Q) : T (h + 1) mdX10_back 0 [(0, .ref x0), (1, .int x1)] [] M Q := by
  unfold DX10_back_0 at H
  refine xt_aload_n (j := 0) dX10_back_0 rfl rfl ?_
  refine xt_iload_n (j := 1) dX10_back_1 rfl rfl ?_
  obtain ⟨ho1, H⟩ := H
  refine xt_callV (h2 := h) (as := [.int x1]) (st := []) dX10_back_2 (mlX10_142 rfl) rfl ho1.1 ⟨by rw [ho1.2]; rfl, by rw [ho1.2]; decide⟩ (by first | decide | (simp [Value.category]; done)) (Nat.le_refl _) H (fun r M2 HH hE => ?_)
  obtain ⟨o3, hr, H⟩ := HH hE
  subst hr
  have ho1 := ok_E ho1 hE
  show T _ _ _ _ [va_rf o3] _ _
  refine xt_astore_nO (lv' := [(2, va_rf o3), (0, .ref x0), (1, .int x1)]) dX10_back_5 rfl (by decide) rfl ?_
  refine xt_aload_nO (j := 0) dX10_back_6 rfl rfl ?_
  rcases ho : o3 with _ | b4
  · have H := H.1 ho
    try rw [ho]
    show T _ _ _ [(2, .null), (0, .ref x0), (1, .int x1)] [.null] _ _
    refine xt_ifnonnullN dX10_back_7 ?_
    refine xt_iconst (v := -1) dX10_back_10 (by decide) ?_
    exact xt_ireturn dX10_back_11 rfl H
  · have H := H.2 _ ho
    try rw [ho]
    show T _ _ _ [(2, .ref b4), (0, .ref x0), (1, .int x1)] [.ref b4] _ _
    refine xt_ifnonnull (tgt := 12) dX10_back_7 (by decide) ?_
    refine xt_aload_n (j := 0) dX10_back_12 rfl rfl ?_
    obtain ⟨ho5, H⟩ := H
    refine xt_getI dX10_back_13 (flX10_189 rfl) ft_4_5 ho5.1 ho5.2 ?_
    refine xt_if_ne (tgt := 22) dX10_back_16 (by decide) (fun hc => ?_) (fun hc => ?_)
    · have H := H.1 hc
      refine xt_aload_n (j := 0) dX10_back_22 rfl rfl ?_
      refine xt_callV (h2 := h) (as := []) (st := []) dX10_back_23 (mlX10_195 rfl) rfl ho5.1 ⟨by rw [ho5.2]; rfl, by rw [ho5.2]; decide⟩ (by first | decide | (simp [Value.category]; done)) (Nat.le_refl _) H (fun r M6 HH hE => ?_)
      obtain ⟨hr, H⟩ := HH hE
      subst hr
      have ho1 := ok_E ho1 hE
      have ho5 := ok_E ho5 hE
      show T _ _ _ _ [] _ _
      refine xt_aload_n (j := 0) dX10_back_26 rfl rfl ?_
      refine xt_getI dX10_back_27 (flX10_189 rfl) ft_4_5 ho5.1 ho5.2 ?_
      exact xt_ireturn dX10_back_30 rfl H
    · have H := H.2 hc
      refine xt_bipush (v := -2) dX10_back_19 (by decide) ?_
      exact xt_ireturn dX10_back_21 rfl H
theorem KX10_back {h : Nat} {x0 : Nat} {x1 : Int32} {M : Mem} {Q : Option Value → Mem → Prop} (H : DX10_back_0 h x0 x1 M Q) : E (h + 1) mdX10_back [.ref x0, .int x1] M Q := E.of (by decide) (Nat.le_of_ble_eq_true rfl) (fun _ _ _ => trivial) (VX10_back_0 H)
def DX10_same_22 (h : Nat) (M : Mem) (Q : Option Value → Mem → Prop) : Prop :=
  Q (some (.int (-1))) M
set_option maxRecDepth 20000 in
set_option maxHeartbeats 2000000 in
theorem VX10_same_22 {h : Nat} {M : Mem} {Q : Option Value → Mem → Prop} (H : DX10_same_22 h  M Q) : T (h + 1) mdX10_same 22 [] [] M Q := by
  unfold DX10_same_22 at H
  refine xt_iconst (v := -1) dX10_same_22 (by decide) ?_
  exact xt_ireturn dX10_same_23 rfl H
def DX10_same_53 (h : Nat) (s0 : Int32) (M : Mem) (Q : Option Value → Mem → Prop) : Prop :=
  Q (some (.int s0)) M
set_option maxRecDepth 20000 in
set_option maxHeartbeats 2000000 in
theorem VX10_same_53 {h : Nat} {s0 : Int32} {M : Mem} {Q : Option Value → Mem → Prop} (H : DX10_same_53 h s0 M Q) : T (h + 1) mdX10_same 53 [] [.int s0] M Q := by
  unfold DX10_same_53 at H
  exact xt_ireturn dX10_same_53 rfl H
def DX10_same_0 (h : Nat) (x0 : Nat) (x1 : Int32) (x2 : Int32) (M : Mem) (Q : Option Value → Mem → Prop) : Prop :=
  ok M x0 12 ∧ E h mdX10_governorAt [.ref x0, .int x1] M (fun r M2 => mE M M2 → ∃ o3 : Option Nat, r = some (va_rf o3) ∧ E h mdX10_governorAt [.ref x0, .int x2] M2 (fun r M4 => mE M2 M4 → ∃ o5 : Option Nat, r = some (va_rf o5) ∧ (o3 = none → DX10_same_22 h  M4 Q) ∧
  (∀ b6 : Nat, o3 = some b6 → (o5 = none → DX10_same_22 h  M4 Q) ∧
  (∀ b7 : Nat, o5 = some b7 → ok M4 b6 4 ∧ ok M4 b7 4 ∧ ((mI M4 b6 1) = (mI M4 b7 1) → E h mdX2_likeOther [.ref b6, .ref b7] M4 (fun r M10 => mE M4 M10 → ∃ r11 : Int32, r = some (.int r11) ∧ (r11 = 0 → DX10_same_53 h 0 M10 Q) ∧
  (¬ (r11 = 0) → DX10_same_53 h 1 M10 Q))) ∧
  (¬ ((mI M4 b6 1) = (mI M4 b7 1)) → Q (some (.int (-2))) M4)))))
set_option maxRecDepth 20000 in
set_option maxHeartbeats 2000000 in
theorem VX10_same_0 {h : Nat} {x0 : Nat} {x1 : Int32} {x2 : Int32} {M : Mem} {Q : Option Value → Mem → Prop} (H : DX10_same_0 h x0 x1 x2 M Q) : T (h + 1) mdX10_same 0 [(0, .ref x0), (1, .int x1), (2, .int x2)] [] M Q := by
  unfold DX10_same_0 at H
  refine xt_aload_n (j := 0) dX10_same_0 rfl rfl ?_
  refine xt_iload_n (j := 1) dX10_same_1 rfl rfl ?_
  obtain ⟨ho1, H⟩ := H
  refine xt_callV (h2 := h) (as := [.int x1]) (st := []) dX10_same_2 (mlX10_142 rfl) rfl ho1.1 ⟨by rw [ho1.2]; rfl, by rw [ho1.2]; decide⟩ (by first | decide | (simp [Value.category]; done)) (Nat.le_refl _) H (fun r M2 HH hE => ?_)
  obtain ⟨o3, hr, H⟩ := HH hE
  subst hr
  have ho1 := ok_E ho1 hE
  show T _ _ _ _ [va_rf o3] _ _
  refine xt_astore_nO (lv' := [(3, va_rf o3), (0, .ref x0), (1, .int x1), (2, .int x2)]) dX10_same_5 rfl (by decide) rfl ?_
  refine xt_aload_n (j := 1) dX10_same_6 rfl rfl ?_
  refine xt_iload_n (j := 3) dX10_same_7 rfl rfl ?_
  refine xt_callV (h2 := h) (as := [.int x2]) (st := []) dX10_same_8 (mlX10_142 rfl) rfl ho1.1 ⟨by rw [ho1.2]; rfl, by rw [ho1.2]; decide⟩ (by first | decide | (simp [Value.category]; done)) (Nat.le_refl _) H (fun r M4 HH hE => ?_)
  obtain ⟨o5, hr, H⟩ := HH hE
  subst hr
  have ho1 := ok_E ho1 hE
  show T _ _ _ _ [va_rf o5] _ _
  refine xt_astoreO (lv' := [(4, va_rf o5), (3, va_rf o3), (0, .ref x0), (1, .int x1), (2, .int x2)]) dX10_same_11 (by decide) (by first | rfl | simp [cat_rf]) ?_
  refine xt_aload_nO (j := 1) dX10_same_13 rfl rfl ?_
  rcases ho : o3 with _ | b6
  · have H := H.1 ho
    try rw [ho]
    show T _ _ _ [(4, va_rf o5), (3, .null), (0, .ref x0), (1, .int x1), (2, .int x2)] [.null] _ _
    refine xt_ifnullN (tgt := 22) dX10_same_14 (by decide) ?_
    exact xt_sub [] rfl (VX10_same_22 H)
  · have H := H.2 _ ho
    try rw [ho]
    show T _ _ _ [(4, va_rf o5), (3, .ref b6), (0, .ref x0), (1, .int x1), (2, .int x2)] [.ref b6] _ _
    refine xt_ifnull dX10_same_14 ?_
    refine xt_aloadO (j := 0) dX10_same_17 rfl ?_
    rcases ho : o5 with _ | b7
    · have H := H.1 ho
      try rw [ho]
      show T _ _ _ [(4, .null), (3, .ref b6), (0, .ref x0), (1, .int x1), (2, .int x2)] [.null] _ _
      refine xt_ifnonnullN dX10_same_19 ?_
      exact xt_sub [] rfl (VX10_same_22 H)
    · have H := H.2 _ ho
      try rw [ho]
      show T _ _ _ [(4, .ref b7), (3, .ref b6), (0, .ref x0), (1, .int x1), (2, .int x2)] [.ref b7] _ _
      refine xt_ifnonnull (tgt := 24) dX10_same_19 (by decide) ?_
      refine xt_aload_n (j := 1) dX10_same_24 rfl rfl ?_
      obtain ⟨ho8, H⟩ := H
      refine xt_getI dX10_same_25 (flX10_186 rfl) ft_4_1 ho8.1 ho8.2 ?_
      refine xt_aload (j := 0) dX10_same_28 rfl ?_
      obtain ⟨ho9, H⟩ := H
      refine xt_getI dX10_same_30 (flX10_186 rfl) ft_4_1 ho9.1 ho9.2 ?_
      refine xt_icmp_eq (tgt := 39) dX10_same_33 (by decide) (fun hc => ?_) (fun hc => ?_)
      · have H := H.1 hc
        refine xt_aload_n (j := 1) dX10_same_39 rfl rfl ?_
        refine xt_aload (j := 0) dX10_same_40 rfl ?_
        refine xt_callV (h2 := h) (as := [.ref b7]) (st := []) dX10_same_42 (mlX10_198 rfl) rfl ho8.1 ⟨by rw [ho8.2]; rfl, by rw [ho8.2]; decide⟩ (by first | decide | (simp [Value.category]; done)) (Nat.le_refl _) H (fun r M10 HH hE => ?_)
        obtain ⟨r11, hr, H⟩ := HH hE
        subst hr
        have ho1 := ok_E ho1 hE
        have ho8 := ok_E ho8 hE
        have ho9 := ok_E ho9 hE
        show T _ _ _ _ [.int r11] _ _
        refine xt_if_eq (tgt := 52) dX10_same_45 (by decide) (fun hc => ?_) (fun hc => ?_)
        · have H := H.1 hc
          refine xt_iconst (v := 0) dX10_same_52 (by decide) ?_
          exact xt_sub [] rfl (VX10_same_53 H)
        · have H := H.2 hc
          refine xt_iconst (v := 1) dX10_same_48 (by decide) ?_
          refine xt_goto (tgt := 53) dX10_same_49 (by decide) ?_
          exact xt_sub [] rfl (VX10_same_53 H)
      · have H := H.2 hc
        refine xt_bipush (v := -2) dX10_same_36 (by decide) ?_
        exact xt_ireturn dX10_same_38 rfl H
theorem KX10_same {h : Nat} {x0 : Nat} {x1 : Int32} {x2 : Int32} {M : Mem} {Q : Option Value → Mem → Prop} (H : DX10_same_0 h x0 x1 x2 M Q) : E (h + 1) mdX10_same [.ref x0, .int x1, .int x2] M Q := E.of (by decide) (Nat.le_of_ble_eq_true rfl) (fun _ _ _ => trivial) (VX10_same_0 H)
def DX10_search_29 (h : Nat) (s0 : Int32) (M : Mem) (Q : Option Value → Mem → Prop) : Prop :=
  Q (some (.int s0)) M
set_option maxRecDepth 20000 in
set_option maxHeartbeats 2000000 in
theorem VX10_search_29 {h : Nat} {s0 : Int32} {M : Mem} {Q : Option Value → Mem → Prop} (H : DX10_search_29 h s0 M Q) : T (h + 1) mdX10_search 29 [] [.int s0] M Q := by
  unfold DX10_search_29 at H
  exact xt_ireturn dX10_search_29 rfl H
def DX10_search_0 (h : Nat) (x0 : Nat) (x1 : Int32) (M : Mem) (Q : Option Value → Mem → Prop) : Prop :=
  ok M x0 12 ∧ E h mdX10_moduleAt [.ref x0, .int x1] M (fun r M2 => mE M M2 → ∃ o3 : Option Nat, r = some (va_rf o3) ∧ (o3 = none → Q (some (.int (-1))) M2) ∧
  (∀ b4 : Nat, o3 = some b4 → E h mdX10_searchOf [.ref x0, .int x1] M2 (fun r M5 => mE M2 M5 → ∃ o6 : Option Nat, r = some (va_rf o6) ∧ (o6 = none → DX10_search_29 h (-4) M5 Q) ∧
  (∀ b7 : Nat, o6 = some b7 → ok M5 b7 7 ∧ DX10_search_29 h (mI M5 b7 3) M5 Q))))
set_option maxRecDepth 20000 in
set_option maxHeartbeats 2000000 in
theorem VX10_search_0 {h : Nat} {x0 : Nat} {x1 : Int32} {M : Mem} {Q : Option Value → Mem → Prop} (H : DX10_search_0 h x0 x1 M Q) : T (h + 1) mdX10_search 0 [(0, .ref x0), (1, .int x1)] [] M Q := by
  unfold DX10_search_0 at H
  refine xt_aload_n (j := 0) dX10_search_0 rfl rfl ?_
  refine xt_iload_n (j := 1) dX10_search_1 rfl rfl ?_
  obtain ⟨ho1, H⟩ := H
  refine xt_callV (h2 := h) (as := [.int x1]) (st := []) dX10_search_2 (mlX10_89 rfl) rfl ho1.1 ⟨by rw [ho1.2]; rfl, by rw [ho1.2]; decide⟩ (by first | decide | (simp [Value.category]; done)) (Nat.le_refl _) H (fun r M2 HH hE => ?_)
  obtain ⟨o3, hr, H⟩ := HH hE
  subst hr
  have ho1 := ok_E ho1 hE
  show T _ _ _ _ [va_rf o3] _ _
  rcases ho : o3 with _ | b4
  · have H := H.1 ho
    try rw [ho]
    show T _ _ _ [(0, .ref x0), (1, .int x1)] [.null] _ _
    refine xt_ifnonnullN dX10_search_5 ?_
    refine xt_iconst (v := -1) dX10_search_8 (by decide) ?_
    exact xt_ireturn dX10_search_9 rfl H
  · have H := H.2 _ ho
    try rw [ho]
    show T _ _ _ [(0, .ref x0), (1, .int x1)] [.ref b4] _ _
    refine xt_ifnonnull (tgt := 10) dX10_search_5 (by decide) ?_
    refine xt_aload_n (j := 0) dX10_search_10 rfl rfl ?_
    refine xt_iload_n (j := 1) dX10_search_11 rfl rfl ?_
    refine xt_callV (h2 := h) (as := [.int x1]) (st := []) dX10_search_12 (mlX10_202 rfl) rfl ho1.1 ⟨by rw [ho1.2]; rfl, by rw [ho1.2]; decide⟩ (by first | decide | (simp [Value.category]; done)) (Nat.le_refl _) H (fun r M5 HH hE => ?_)
    obtain ⟨o6, hr, H⟩ := HH hE
    subst hr
    have ho1 := ok_E ho1 hE
    show T _ _ _ _ [va_rf o6] _ _
    refine xt_astore_nO (lv' := [(2, va_rf o6), (0, .ref x0), (1, .int x1)]) dX10_search_15 rfl (by decide) rfl ?_
    refine xt_aload_nO (j := 0) dX10_search_16 rfl rfl ?_
    rcases ho : o6 with _ | b7
    · have H := H.1 ho
      try rw [ho]
      show T _ _ _ [(2, .null), (0, .ref x0), (1, .int x1)] [.null] _ _
      refine xt_ifnonnullN dX10_search_17 ?_
      refine xt_bipush (v := -4) dX10_search_20 (by decide) ?_
      refine xt_goto (tgt := 29) dX10_search_22 (by decide) ?_
      exact xt_sub [] rfl (VX10_search_29 H)
    · have H := H.2 _ ho
      try rw [ho]
      show T _ _ _ [(2, .ref b7), (0, .ref x0), (1, .int x1)] [.ref b7] _ _
      refine xt_ifnonnull (tgt := 25) dX10_search_17 (by decide) ?_
      refine xt_aload_n (j := 0) dX10_search_25 rfl rfl ?_
      obtain ⟨ho8, H⟩ := H
      refine xt_getI dX10_search_26 (flX10_206 rfl) ft_7_3 ho8.1 ho8.2 ?_
      exact xt_sub [] rfl (VX10_search_29 H)
theorem KX10_search {h : Nat} {x0 : Nat} {x1 : Int32} {M : Mem} {Q : Option Value → Mem → Prop} (H : DX10_search_0 h x0 x1 M Q) : E (h + 1) mdX10_search [.ref x0, .int x1] M Q := E.of (by decide) (Nat.le_of_ble_eq_true rfl) (fun _ _ _ => trivial) (VX10_search_0 H)
def DX10_move_34 (h : Nat) (M : Mem) (Q : Option Value → Mem → Prop) : Prop :=
  Q (some (.int (-9))) M
set_option maxRecDepth 20000 in
set_option maxHeartbeats 2000000 in
theorem VX10_move_34 {h : Nat} {M : Mem} {Q : Option Value → Mem → Prop} (H : DX10_move_34 h  M Q) : T (h + 1) mdX10_move 34 [] [] M Q := by
  unfold DX10_move_34 at H
  refine xt_bipush (v := -9) dX10_move_34 (by decide) ?_
  exact xt_ireturn dX10_move_36 rfl H
def DX10_move_84 (h : Nat) (s0 : Int32) (M : Mem) (Q : Option Value → Mem → Prop) : Prop :=
  Q (some (.int s0)) M
set_option maxRecDepth 20000 in
set_option maxHeartbeats 2000000 in
theorem VX10_move_84 {h : Nat} {s0 : Int32} {M : Mem} {Q : Option Value → Mem → Prop} (H : DX10_move_84 h s0 M Q) : T (h + 1) mdX10_move 84 [] [.int s0] M Q := by
  unfold DX10_move_84 at H
  exact xt_ireturn dX10_move_84 rfl H
def DX10_move_0 (h : Nat) (x0 : Nat) (x1 : Int32) (x2 : Int32) (x3 : Int32) (x4 : Int32) (M : Mem) (Q : Option Value → Mem → Prop) : Prop :=
  ok M x0 12 ∧ E h mdX10_searchOf [.ref x0, .int x1] M (fun r M2 => mE M M2 → ∃ o3 : Option Nat, r = some (va_rf o3) ∧ (o3 = none → DX10_move_34 h  M2 Q) ∧
  (∀ b4 : Nat, o3 = some b4 → ok M2 b4 7 ∧ E h mdX5_hasState [.ref b4, .int x2] M2 (fun r M6 => mE M2 M6 → ∃ r7 : Int32, r = some (.int r7) ∧ (r7 = 0 → DX10_move_34 h  M6 Q) ∧
  (¬ (r7 = 0) → (x3 < 0 → DX10_move_34 h  M6 Q) ∧
  (¬ (x3 < 0) → (x3 < (mI M6 b4 1) → (¬ x4 = 0 → (¬ x4 = 1 → DX10_move_84 h (-9) M6 Q) ∧
  (x4 = 1 → ∃ b8 : Nat, mR M6 b4 10 = some b8 ∧ ok M6 b8 21 ∧ vp_in ((x2 * (mI M6 b4 1)) + x3) (mL M6 b8) ∧ DX10_move_84 h (mAI M6 b8 ((x2 * (mI M6 b4 1)) + x3 : Int32).toNatClampNeg) M6 Q)) ∧
  (x4 = 0 → ∃ b10 : Nat, mR M6 b4 9 = some b10 ∧ ok M6 b10 21 ∧ vp_in ((x2 * (mI M6 b4 1)) + x3) (mL M6 b10) ∧ Q (some (.int (mAI M6 b10 ((x2 * (mI M6 b4 1)) + x3 : Int32).toNatClampNeg))) M6)) ∧
  (¬ (x3 < (mI M6 b4 1)) → DX10_move_34 h  M6 Q))))))
set_option maxRecDepth 20000 in
set_option maxHeartbeats 2000000 in
theorem VX10_move_0 {h : Nat} {x0 : Nat} {x1 : Int32} {x2 : Int32} {x3 : Int32} {x4 : Int32} {M : Mem} {Q : Option Value → Mem → Prop} (H : DX10_move_0 h x0 x1 x2 x3 x4 M Q) : T (h + 1) mdX10_move 0 [(0, .ref x0), (1, .int x1), (2, .int x2), (3, .int x3), (4, .int x4)] [] M Q := by
  unfold DX10_move_0 at H
  refine xt_aload_n (j := 0) dX10_move_0 rfl rfl ?_
  refine xt_iload_n (j := 1) dX10_move_1 rfl rfl ?_
  obtain ⟨ho1, H⟩ := H
  refine xt_callV (h2 := h) (as := [.int x1]) (st := []) dX10_move_2 (mlX10_202 rfl) rfl ho1.1 ⟨by rw [ho1.2]; rfl, by rw [ho1.2]; decide⟩ (by first | decide | (simp [Value.category]; done)) (Nat.le_refl _) H (fun r M2 HH hE => ?_)
  obtain ⟨o3, hr, H⟩ := HH hE
  subst hr
  have ho1 := ok_E ho1 hE
  show T _ _ _ _ [va_rf o3] _ _
  refine xt_astoreO (lv' := [(5, va_rf o3), (0, .ref x0), (1, .int x1), (2, .int x2), (3, .int x3), (4, .int x4)]) dX10_move_5 (by decide) rfl ?_
  refine xt_aloadO (j := 0) dX10_move_7 rfl ?_
  rcases ho : o3 with _ | b4
  · have H := H.1 ho
    try rw [ho]
    show T _ _ _ [(5, .null), (0, .ref x0), (1, .int x1), (2, .int x2), (3, .int x3), (4, .int x4)] [.null] _ _
    refine xt_ifnullN (tgt := 34) dX10_move_9 (by decide) ?_
    exact xt_sub [] rfl (VX10_move_34 H)
  · have H := H.2 _ ho
    try rw [ho]
    show T _ _ _ [(5, .ref b4), (0, .ref x0), (1, .int x1), (2, .int x2), (3, .int x3), (4, .int x4)] [.ref b4] _ _
    refine xt_ifnull dX10_move_9 ?_
    refine xt_aload (j := 0) dX10_move_12 rfl ?_
    refine xt_iload_n (j := 3) dX10_move_14 rfl rfl ?_
    obtain ⟨ho5, H⟩ := H
    refine xt_callV (h2 := h) (as := [.int x2]) (st := []) dX10_move_15 (mlX10_211 rfl) rfl ho5.1 ⟨by rw [ho5.2]; rfl, by rw [ho5.2]; decide⟩ (by first | decide | (simp [Value.category]; done)) (Nat.le_refl _) H (fun r M6 HH hE => ?_)
    obtain ⟨r7, hr, H⟩ := HH hE
    subst hr
    have ho1 := ok_E ho1 hE
    have ho5 := ok_E ho5 hE
    show T _ _ _ _ [.int r7] _ _
    refine xt_if_eq (tgt := 34) dX10_move_18 (by decide) (fun hc => ?_) (fun hc => ?_)
    · have H := H.1 hc
      exact xt_sub [] rfl (VX10_move_34 H)
    · have H := H.2 hc
      refine xt_iload_n (j := 4) dX10_move_21 rfl rfl ?_
      refine xt_if_lt (tgt := 34) dX10_move_22 (by decide) (fun hc => ?_) (fun hc => ?_)
      · have H := H.1 hc
        exact xt_sub [] rfl (VX10_move_34 H)
      · have H := H.2 hc
        refine xt_iload_n (j := 4) dX10_move_25 rfl rfl ?_
        refine xt_aload (j := 0) dX10_move_26 rfl ?_
        refine xt_getI dX10_move_28 (flX10_214 rfl) ft_7_1 ho5.1 ho5.2 ?_
        refine xt_icmp_lt (tgt := 37) dX10_move_31 (by decide) (fun hc => ?_) (fun hc => ?_)
        · have H := H.1 hc
          refine xt_iload (j := 5) dX10_move_37 rfl ?_
          refine xt_if_ne (tgt := 58) dX10_move_39 (by decide) (fun hc => ?_) (fun hc => ?_)
          · have H := H.1 hc
            refine xt_iload (j := 5) dX10_move_58 rfl ?_
            refine xt_iconst (v := 1) dX10_move_60 (by decide) ?_
            refine xt_icmp_ne (tgt := 82) dX10_move_61 (by decide) (fun hc => ?_) (fun hc => ?_)
            · have H := H.1 hc
              refine xt_bipush (v := -9) dX10_move_82 (by decide) ?_
              exact xt_sub [] rfl (VX10_move_84 H)
            · have H := H.2 hc
              refine xt_aload (j := 0) dX10_move_64 rfl ?_
              obtain ⟨b8, hb, H⟩ := H
              refine xt_getR dX10_move_66 (flX10_220 rfl) ft_7_10 ho5.1 ho5.2 hb ?_
              refine xt_iload_n (j := 3) dX10_move_69 rfl rfl ?_
              refine xt_aload (j := 0) dX10_move_70 rfl ?_
              refine xt_getI dX10_move_72 (flX10_214 rfl) ft_7_1 ho5.1 ho5.2 ?_
              refine xt_imul dX10_move_75 ?_
              refine xt_iload_n (j := 4) dX10_move_76 rfl rfl ?_
              refine xt_iadd dX10_move_77 ?_
              obtain ⟨ho9, H⟩ := H
              obtain ⟨hi, H⟩ := H
              refine xt_iald dX10_move_78 ho9.1 ho9.2 hi ?_
              refine xt_goto (tgt := 84) dX10_move_79 (by decide) ?_
              exact xt_sub [] rfl (VX10_move_84 H)
          · have H := H.2 hc
            refine xt_aload (j := 0) dX10_move_42 rfl ?_
            obtain ⟨b10, hb, H⟩ := H
            refine xt_getR dX10_move_44 (flX10_217 rfl) ft_7_9 ho5.1 ho5.2 hb ?_
            refine xt_iload_n (j := 3) dX10_move_47 rfl rfl ?_
            refine xt_aload (j := 0) dX10_move_48 rfl ?_
            refine xt_getI dX10_move_50 (flX10_214 rfl) ft_7_1 ho5.1 ho5.2 ?_
            refine xt_imul dX10_move_53 ?_
            refine xt_iload_n (j := 4) dX10_move_54 rfl rfl ?_
            refine xt_iadd dX10_move_55 ?_
            obtain ⟨ho11, H⟩ := H
            obtain ⟨hi, H⟩ := H
            refine xt_iald dX10_move_56 ho11.1 ho11.2 hi ?_
            exact xt_ireturn dX10_move_57 rfl H
        · have H := H.2 hc
          exact xt_sub [] rfl (VX10_move_34 H)
theorem KX10_move {h : Nat} {x0 : Nat} {x1 : Int32} {x2 : Int32} {x3 : Int32} {x4 : Int32} {M : Mem} {Q : Option Value → Mem → Prop} (H : DX10_move_0 h x0 x1 x2 x3 x4 M Q) : E (h + 1) mdX10_move [.ref x0, .int x1, .int x2, .int x3, .int x4] M Q := E.of (by decide) (Nat.le_of_ble_eq_true rfl) (fun _ _ _ => trivial) (VX10_move_0 H)
def DX10_classOf_18 (h : Nat) (M : Mem) (Q : Option Value → Mem → Prop) : Prop :=
  Q (some (.int (-9))) M
set_option maxRecDepth 20000 in
set_option maxHeartbeats 2000000 in
theorem VX10_classOf_18 {h : Nat} {M : Mem} {Q : Option Value → Mem → Prop} (H : DX10_classOf_18 h  M Q) : T (h + 1) mdX10_classOf 18 [] [] M Q := by
  unfold DX10_classOf_18 at H
  refine xt_bipush (v := -9) dX10_classOf_18 (by decide) ?_
  exact xt_ireturn dX10_classOf_20 rfl H
def DX10_classOf_0 (h : Nat) (x0 : Nat) (x1 : Int32) (x2 : Int32) (M : Mem) (Q : Option Value → Mem → Prop) : Prop :=
  ok M x0 12 ∧ E h mdX10_searchOf [.ref x0, .int x1] M (fun r M2 => mE M M2 → ∃ o3 : Option Nat, r = some (va_rf o3) ∧ (o3 = none → DX10_classOf_18 h  M2 Q) ∧
  (∀ b4 : Nat, o3 = some b4 → ok M2 b4 7 ∧ E h mdX5_hasState [.ref b4, .int x2] M2 (fun r M6 => mE M2 M6 → ∃ r7 : Int32, r = some (.int r7) ∧ (¬ r7 = 0 → ∃ b8 : Nat, mR M6 b4 11 = some b8 ∧ ok M6 b8 21 ∧ vp_in x2 (mL M6 b8) ∧ Q (some (.int (mAI M6 b8 (x2 : Int32).toNatClampNeg))) M6) ∧
  (r7 = 0 → DX10_classOf_18 h  M6 Q))))
set_option maxRecDepth 20000 in
set_option maxHeartbeats 2000000 in
theorem VX10_classOf_0 {h : Nat} {x0 : Nat} {x1 : Int32} {x2 : Int32} {M : Mem} {Q : Option Value → Mem → Prop} (H : DX10_classOf_0 h x0 x1 x2 M Q) : T (h + 1) mdX10_classOf 0 [(0, .ref x0), (1, .int x1), (2, .int x2)] [] M Q := by
  unfold DX10_classOf_0 at H
  refine xt_aload_n (j := 0) dX10_classOf_0 rfl rfl ?_
  refine xt_iload_n (j := 1) dX10_classOf_1 rfl rfl ?_
  obtain ⟨ho1, H⟩ := H
  refine xt_callV (h2 := h) (as := [.int x1]) (st := []) dX10_classOf_2 (mlX10_202 rfl) rfl ho1.1 ⟨by rw [ho1.2]; rfl, by rw [ho1.2]; decide⟩ (by first | decide | (simp [Value.category]; done)) (Nat.le_refl _) H (fun r M2 HH hE => ?_)
  obtain ⟨o3, hr, H⟩ := HH hE
  subst hr
  have ho1 := ok_E ho1 hE
  show T _ _ _ _ [va_rf o3] _ _
  refine xt_astore_nO (lv' := [(3, va_rf o3), (0, .ref x0), (1, .int x1), (2, .int x2)]) dX10_classOf_5 rfl (by decide) rfl ?_
  refine xt_aload_nO (j := 0) dX10_classOf_6 rfl rfl ?_
  rcases ho : o3 with _ | b4
  · have H := H.1 ho
    try rw [ho]
    show T _ _ _ [(3, .null), (0, .ref x0), (1, .int x1), (2, .int x2)] [.null] _ _
    refine xt_ifnullN (tgt := 18) dX10_classOf_7 (by decide) ?_
    exact xt_sub [] rfl (VX10_classOf_18 H)
  · have H := H.2 _ ho
    try rw [ho]
    show T _ _ _ [(3, .ref b4), (0, .ref x0), (1, .int x1), (2, .int x2)] [.ref b4] _ _
    refine xt_ifnull dX10_classOf_7 ?_
    refine xt_aload_n (j := 0) dX10_classOf_10 rfl rfl ?_
    refine xt_iload_n (j := 3) dX10_classOf_11 rfl rfl ?_
    obtain ⟨ho5, H⟩ := H
    refine xt_callV (h2 := h) (as := [.int x2]) (st := []) dX10_classOf_12 (mlX10_211 rfl) rfl ho5.1 ⟨by rw [ho5.2]; rfl, by rw [ho5.2]; decide⟩ (by first | decide | (simp [Value.category]; done)) (Nat.le_refl _) H (fun r M6 HH hE => ?_)
    obtain ⟨r7, hr, H⟩ := HH hE
    subst hr
    have ho1 := ok_E ho1 hE
    have ho5 := ok_E ho5 hE
    show T _ _ _ _ [.int r7] _ _
    refine xt_if_ne (tgt := 21) dX10_classOf_15 (by decide) (fun hc => ?_) (fun hc => ?_)
    · have H := H.1 hc
      refine xt_aload_n (j := 0) dX10_classOf_21 rfl rfl ?_
      obtain ⟨b8, hb, H⟩ := H
      refine xt_getR dX10_classOf_22 (flX10_222 rfl) ft_7_11 ho5.1 ho5.2 hb ?_
      refine xt_iload_n (j := 3) dX10_classOf_25 rfl rfl ?_
      obtain ⟨ho9, H⟩ := H
      obtain ⟨hi, H⟩ := H
      refine xt_iald dX10_classOf_26 ho9.1 ho9.2 hi ?_
      exact xt_ireturn dX10_classOf_27 rfl H
    · have H := H.2 hc
      exact xt_sub [] rfl (VX10_classOf_18 H)
theorem KX10_classOf {h : Nat} {x0 : Nat} {x1 : Int32} {x2 : Int32} {M : Mem} {Q : Option Value → Mem → Prop} (H : DX10_classOf_0 h x0 x1 x2 M Q) : E (h + 1) mdX10_classOf [.ref x0, .int x1, .int x2] M Q := E.of (by decide) (Nat.le_of_ble_eq_true rfl) (fun _ _ _ => trivial) (VX10_classOf_0 H)
def DX10_way_21 (h : Nat) (M : Mem) (Q : Option Value → Mem → Prop) : Prop :=
  Q (some (.int (-9))) M
set_option maxRecDepth 20000 in
set_option maxHeartbeats 2000000 in
theorem VX10_way_21 {h : Nat} {M : Mem} {Q : Option Value → Mem → Prop} (H : DX10_way_21 h  M Q) : T (h + 1) mdX10_way 21 [] [] M Q := by
  unfold DX10_way_21 at H
  refine xt_bipush (v := -9) dX10_way_21 (by decide) ?_
  exact xt_ireturn dX10_way_23 rfl H
def DX10_way_67 (h : Nat) (s0 : Int32) (M : Mem) (Q : Option Value → Mem → Prop) : Prop :=
  Q (some (.int s0)) M
set_option maxRecDepth 20000 in
set_option maxHeartbeats 2000000 in
theorem VX10_way_67 {h : Nat} {s0 : Int32} {M : Mem} {Q : Option Value → Mem → Prop} (H : DX10_way_67 h s0 M Q) : T (h + 1) mdX10_way 67 [] [.int s0] M Q := by
  unfold DX10_way_67 at H
  exact xt_ireturn dX10_way_67 rfl H
def DX10_way_50 (h : Nat) (M : Mem) (Q : Option Value → Mem → Prop) : Prop :=
  DX10_way_67 h (-9) M Q
set_option maxRecDepth 20000 in
set_option maxHeartbeats 2000000 in
theorem VX10_way_50 {h : Nat} {M : Mem} {Q : Option Value → Mem → Prop} (H : DX10_way_50 h  M Q) : T (h + 1) mdX10_way 50 [] [] M Q := by
  unfold DX10_way_50 at H
  refine xt_bipush (v := -9) dX10_way_50 (by decide) ?_
  refine xt_goto (tgt := 67) dX10_way_52 (by decide) ?_
  exact xt_sub [] rfl (VX10_way_67 H)
def DX10_way_0 (h : Nat) (x0 : Nat) (x1 : Int32) (x2 : Int32) (x3 : Int32) (M : Mem) (Q : Option Value → Mem → Prop) : Prop :=
  ok M x0 12 ∧ E h mdX10_searchOf [.ref x0, .int x1] M (fun r M2 => mE M M2 → ∃ o3 : Option Nat, r = some (va_rf o3) ∧ (o3 = none → DX10_way_21 h  M2 Q) ∧
  (∀ b4 : Nat, o3 = some b4 → ok M2 b4 7 ∧ E h mdX5_hasState [.ref b4, .int x2] M2 (fun r M6 => mE M2 M6 → ∃ r7 : Int32, r = some (.int r7) ∧ (¬ r7 = 0 → E h mdX5_stepsTo [.ref b4, .int x2] M6 (fun r M8 => mE M6 M8 → ∃ r9 : Int32, r = some (.int r9) ∧ (¬ x3 = (-1) → (x3 < 0 → DX10_way_50 h  M8 Q) ∧
  (¬ (x3 < 0) → (x3 < r9 → E h mdX5_stepTo [.ref b4, .int x2, .int ((r9 - 1) - x3)] M8 (fun r M10 => mE M8 M10 → ∃ r11 : Int32, r = some (.int r11) ∧ DX10_way_67 h r11 M10 Q)) ∧
  (¬ (x3 < r9) → DX10_way_50 h  M8 Q))) ∧
  (x3 = (-1) → Q (some (.int r9)) M8))) ∧
  (r7 = 0 → DX10_way_21 h  M6 Q))))
set_option maxRecDepth 20000 in
set_option maxHeartbeats 2000000 in
theorem VX10_way_0 {h : Nat} {x0 : Nat} {x1 : Int32} {x2 : Int32} {x3 : Int32} {M : Mem} {Q : Option Value → Mem → Prop} (H : DX10_way_0 h x0 x1 x2 x3 M Q) : T (h + 1) mdX10_way 0 [(0, .ref x0), (1, .int x1), (2, .int x2), (3, .int x3)] [] M Q := by
  unfold DX10_way_0 at H
  refine xt_aload_n (j := 0) dX10_way_0 rfl rfl ?_
  refine xt_iload_n (j := 1) dX10_way_1 rfl rfl ?_
  obtain ⟨ho1, H⟩ := H
  refine xt_callV (h2 := h) (as := [.int x1]) (st := []) dX10_way_2 (mlX10_202 rfl) rfl ho1.1 ⟨by rw [ho1.2]; rfl, by rw [ho1.2]; decide⟩ (by first | decide | (simp [Value.category]; done)) (Nat.le_refl _) H (fun r M2 HH hE => ?_)
  obtain ⟨o3, hr, H⟩ := HH hE
  subst hr
  have ho1 := ok_E ho1 hE
  show T _ _ _ _ [va_rf o3] _ _
  refine xt_astoreO (lv' := [(4, va_rf o3), (0, .ref x0), (1, .int x1), (2, .int x2), (3, .int x3)]) dX10_way_5 (by decide) rfl ?_
  refine xt_aloadO (j := 0) dX10_way_7 rfl ?_
  rcases ho : o3 with _ | b4
  · have H := H.1 ho
    try rw [ho]
    show T _ _ _ [(4, .null), (0, .ref x0), (1, .int x1), (2, .int x2), (3, .int x3)] [.null] _ _
    refine xt_ifnullN (tgt := 21) dX10_way_9 (by decide) ?_
    exact xt_sub [] rfl (VX10_way_21 H)
  · have H := H.2 _ ho
    try rw [ho]
    show T _ _ _ [(4, .ref b4), (0, .ref x0), (1, .int x1), (2, .int x2), (3, .int x3)] [.ref b4] _ _
    refine xt_ifnull dX10_way_9 ?_
    refine xt_aload (j := 0) dX10_way_12 rfl ?_
    refine xt_iload_n (j := 3) dX10_way_14 rfl rfl ?_
    obtain ⟨ho5, H⟩ := H
    refine xt_callV (h2 := h) (as := [.int x2]) (st := []) dX10_way_15 (mlX10_211 rfl) rfl ho5.1 ⟨by rw [ho5.2]; rfl, by rw [ho5.2]; decide⟩ (by first | decide | (simp [Value.category]; done)) (Nat.le_refl _) H (fun r M6 HH hE => ?_)
    obtain ⟨r7, hr, H⟩ := HH hE
    subst hr
    have ho1 := ok_E ho1 hE
    have ho5 := ok_E ho5 hE
    show T _ _ _ _ [.int r7] _ _
    refine xt_if_ne (tgt := 24) dX10_way_18 (by decide) (fun hc => ?_) (fun hc => ?_)
    · have H := H.1 hc
      refine xt_aload (j := 0) dX10_way_24 rfl ?_
      refine xt_iload_n (j := 3) dX10_way_26 rfl rfl ?_
      refine xt_callV (h2 := h) (as := [.int x2]) (st := []) dX10_way_27 (mlX10_225 rfl) rfl ho5.1 ⟨by rw [ho5.2]; rfl, by rw [ho5.2]; decide⟩ (by first | decide | (simp [Value.category]; done)) (Nat.le_refl _) H (fun r M8 HH hE => ?_)
      obtain ⟨r9, hr, H⟩ := HH hE
      subst hr
      have ho1 := ok_E ho1 hE
      have ho5 := ok_E ho5 hE
      show T _ _ _ _ [.int r9] _ _
      refine xt_istore (lv' := [(5, .int r9), (4, .ref b4), (0, .ref x0), (1, .int x1), (2, .int x2), (3, .int x3)]) dX10_way_30 (by decide) rfl ?_
      refine xt_iload_n (j := 5) dX10_way_32 rfl rfl ?_
      refine xt_iconst (v := -1) dX10_way_33 (by decide) ?_
      refine xt_icmp_ne (tgt := 40) dX10_way_34 (by decide) (fun hc => ?_) (fun hc => ?_)
      · have H := H.1 hc
        refine xt_iload_n (j := 5) dX10_way_40 rfl rfl ?_
        refine xt_if_lt (tgt := 50) dX10_way_41 (by decide) (fun hc => ?_) (fun hc => ?_)
        · have H := H.1 hc
          exact xt_sub [] rfl (VX10_way_50 H)
        · have H := H.2 hc
          refine xt_iload_n (j := 5) dX10_way_44 rfl rfl ?_
          refine xt_iload (j := 0) dX10_way_45 rfl ?_
          refine xt_icmp_lt (tgt := 55) dX10_way_47 (by decide) (fun hc => ?_) (fun hc => ?_)
          · have H := H.1 hc
            refine xt_aload (j := 1) dX10_way_55 rfl ?_
            refine xt_iload_n (j := 4) dX10_way_57 rfl rfl ?_
            refine xt_iload (j := 0) dX10_way_58 rfl ?_
            refine xt_iconst (v := 1) dX10_way_60 (by decide) ?_
            refine xt_isub dX10_way_61 ?_
            refine xt_iload_n (j := 5) dX10_way_62 rfl rfl ?_
            refine xt_isub dX10_way_63 ?_
            refine xt_callV (h2 := h) (as := [.int x2, .int ((r9 - 1) - x3)]) (st := []) dX10_way_64 (mlX10_228 rfl) rfl ho5.1 ⟨by rw [ho5.2]; rfl, by rw [ho5.2]; decide⟩ (by first | decide | (simp [Value.category]; done)) (Nat.le_refl _) H (fun r M10 HH hE => ?_)
            obtain ⟨r11, hr, H⟩ := HH hE
            subst hr
            have ho1 := ok_E ho1 hE
            have ho5 := ok_E ho5 hE
            show T _ _ _ _ [.int r11] _ _
            exact xt_sub [] rfl (VX10_way_67 H)
          · have H := H.2 hc
            exact xt_sub [] rfl (VX10_way_50 H)
      · have H := H.2 hc
        refine xt_iload (j := 0) dX10_way_37 rfl ?_
        exact xt_ireturn dX10_way_39 rfl H
    · have H := H.2 hc
      exact xt_sub [] rfl (VX10_way_21 H)
theorem KX10_way {h : Nat} {x0 : Nat} {x1 : Int32} {x2 : Int32} {x3 : Int32} {M : Mem} {Q : Option Value → Mem → Prop} (H : DX10_way_0 h x0 x1 x2 x3 M Q) : E (h + 1) mdX10_way [.ref x0, .int x1, .int x2, .int x3] M Q := E.of (by decide) (Nat.le_of_ble_eq_true rfl) (fun _ _ _ => trivial) (VX10_way_0 H)
def DX10_never_21 (h : Nat) (M : Mem) (Q : Option Value → Mem → Prop) : Prop :=
  Q (some (.int (-9))) M
set_option maxRecDepth 20000 in
set_option maxHeartbeats 2000000 in
theorem VX10_never_21 {h : Nat} {M : Mem} {Q : Option Value → Mem → Prop} (H : DX10_never_21 h  M Q) : T (h + 1) mdX10_never 21 [] [] M Q := by
  unfold DX10_never_21 at H
  refine xt_bipush (v := -9) dX10_never_21 (by decide) ?_
  exact xt_ireturn dX10_never_23 rfl H
def DX10_never_0 (h : Nat) (x0 : Nat) (x1 : Int32) (x2 : Int32) (M : Mem) (Q : Option Value → Mem → Prop) : Prop :=
  ok M x0 12 ∧ E h mdX10_searchOf [.ref x0, .int x1] M (fun r M2 => mE M M2 → ∃ o3 : Option Nat, r = some (va_rf o3) ∧ (o3 = none → DX10_never_21 h  M2 Q) ∧
  (∀ b4 : Nat, o3 = some b4 → ok M2 b4 7 ∧ ∃ b6 : Nat, mR M2 b4 0 = some b6 ∧ ok M2 b6 3 ∧ E h mdX1_hasSignal [.ref b6, .int x2] M2 (fun r M8 => mE M2 M8 → ∃ r9 : Int32, r = some (.int r9) ∧ (¬ r9 = 0 → E h mdX5_firstAgainst [.ref b4, .int ((1 : Int32) <<< (x2 &&& 31)), .int 0] M8 (fun r M10 => mE M8 M10 → ∃ r11 : Int32, r = some (.int r11) ∧ E h mdX10_judge [.ref x0, .int r11] M10 (fun r M12 => mE M10 M12 → ∃ r13 : Int32, r = some (.int r13) ∧ Q (some (.int r13)) M12))) ∧
  (r9 = 0 → DX10_never_21 h  M8 Q))))
set_option maxRecDepth 20000 in
set_option maxHeartbeats 2000000 in
theorem VX10_never_0 {h : Nat} {x0 : Nat} {x1 : Int32} {x2 : Int32} {M : Mem} {Q : Option Value → Mem → Prop} (H : DX10_never_0 h x0 x1 x2 M Q) : T (h + 1) mdX10_never 0 [(0, .ref x0), (1, .int x1), (2, .int x2)] [] M Q := by
  unfold DX10_never_0 at H
  refine xt_aload_n (j := 0) dX10_never_0 rfl rfl ?_
  refine xt_iload_n (j := 1) dX10_never_1 rfl rfl ?_
  obtain ⟨ho1, H⟩ := H
  refine xt_callV (h2 := h) (as := [.int x1]) (st := []) dX10_never_2 (mlX10_202 rfl) rfl ho1.1 ⟨by rw [ho1.2]; rfl, by rw [ho1.2]; decide⟩ (by first | decide | (simp [Value.category]; done)) (Nat.le_refl _) H (fun r M2 HH hE => ?_)
  obtain ⟨o3, hr, H⟩ := HH hE
  subst hr
  have ho1 := ok_E ho1 hE
  show T _ _ _ _ [va_rf o3] _ _
  refine xt_astore_nO (lv' := [(3, va_rf o3), (0, .ref x0), (1, .int x1), (2, .int x2)]) dX10_never_5 rfl (by decide) rfl ?_
  refine xt_aload_nO (j := 0) dX10_never_6 rfl rfl ?_
  rcases ho : o3 with _ | b4
  · have H := H.1 ho
    try rw [ho]
    show T _ _ _ [(3, .null), (0, .ref x0), (1, .int x1), (2, .int x2)] [.null] _ _
    refine xt_ifnullN (tgt := 21) dX10_never_7 (by decide) ?_
    exact xt_sub [] rfl (VX10_never_21 H)
  · have H := H.2 _ ho
    try rw [ho]
    show T _ _ _ [(3, .ref b4), (0, .ref x0), (1, .int x1), (2, .int x2)] [.ref b4] _ _
    refine xt_ifnull dX10_never_7 ?_
    refine xt_aload_n (j := 0) dX10_never_10 rfl rfl ?_
    obtain ⟨ho5, H⟩ := H
    obtain ⟨b6, hb, H⟩ := H
    refine xt_getR dX10_never_11 (flX10_231 rfl) ft_7_0 ho5.1 ho5.2 hb ?_
    refine xt_iload_n (j := 3) dX10_never_14 rfl rfl ?_
    obtain ⟨ho7, H⟩ := H
    refine xt_callV (h2 := h) (as := [.int x2]) (st := []) dX10_never_15 (mlX10_163 rfl) rfl ho7.1 ⟨by rw [ho7.2]; rfl, by rw [ho7.2]; decide⟩ (by first | decide | (simp [Value.category]; done)) (Nat.le_refl _) H (fun r M8 HH hE => ?_)
    obtain ⟨r9, hr, H⟩ := HH hE
    subst hr
    have ho1 := ok_E ho1 hE
    have ho5 := ok_E ho5 hE
    show T _ _ _ _ [.int r9] _ _
    refine xt_if_ne (tgt := 24) dX10_never_18 (by decide) (fun hc => ?_) (fun hc => ?_)
    · have H := H.1 hc
      refine xt_aload_n (j := 1) dX10_never_24 rfl rfl ?_
      refine xt_aload_n (j := 0) dX10_never_25 rfl rfl ?_
      refine xt_iconst (v := 1) dX10_never_26 (by decide) ?_
      refine xt_iload_n (j := 3) dX10_never_27 rfl rfl ?_
      refine xt_ishl dX10_never_28 ?_
      refine xt_iconst (v := 0) dX10_never_29 (by decide) ?_
      refine xt_callV (h2 := h) (as := [.int ((1 : Int32) <<< (x2 &&& 31)), .int 0]) (st := [.ref x0]) dX10_never_30 (mlX10_232 rfl) rfl ho5.1 ⟨by rw [ho5.2]; rfl, by rw [ho5.2]; decide⟩ (by first | decide | (simp [Value.category]; done)) (Nat.le_refl _) H (fun r M10 HH hE => ?_)
      obtain ⟨r11, hr, H⟩ := HH hE
      subst hr
      have ho1 := ok_E ho1 hE
      have ho5 := ok_E ho5 hE
      show T _ _ _ _ [.int r11, .ref x0] _ _
      refine xt_callV (h2 := h) (as := [.int r11]) (st := []) dX10_never_33 (mlX10_235 rfl) rfl ho1.1 ⟨by rw [ho1.2]; rfl, by rw [ho1.2]; decide⟩ (by first | decide | (simp [Value.category]; done)) (Nat.le_refl _) H (fun r M12 HH hE => ?_)
      obtain ⟨r13, hr, H⟩ := HH hE
      subst hr
      have ho1 := ok_E ho1 hE
      have ho5 := ok_E ho5 hE
      show T _ _ _ _ [.int r13] _ _
      exact xt_ireturn dX10_never_36 rfl H
    · have H := H.2 hc
      exact xt_sub [] rfl (VX10_never_21 H)
theorem KX10_never {h : Nat} {x0 : Nat} {x1 : Int32} {x2 : Int32} {M : Mem} {Q : Option Value → Mem → Prop} (H : DX10_never_0 h x0 x1 x2 M Q) : E (h + 1) mdX10_never [.ref x0, .int x1, .int x2] M Q := E.of (by decide) (Nat.le_of_ble_eq_true rfl) (fun _ _ _ => trivial) (VX10_never_0 H)
def DX10_always_36 (h : Nat) (M : Mem) (Q : Option Value → Mem → Prop) : Prop :=
  Q (some (.int (-9))) M
set_option maxRecDepth 20000 in
set_option maxHeartbeats 2000000 in
theorem VX10_always_36 {h : Nat} {M : Mem} {Q : Option Value → Mem → Prop} (H : DX10_always_36 h  M Q) : T (h + 1) mdX10_always 36 [] [] M Q := by
  unfold DX10_always_36 at H
  refine xt_bipush (v := -9) dX10_always_36 (by decide) ?_
  exact xt_ireturn dX10_always_38 rfl H
def DX10_always_0 (h : Nat) (x0 : Nat) (x1 : Int32) (x2 : Int32) (x3 : Int32) (M : Mem) (Q : Option Value → Mem → Prop) : Prop :=
  ok M x0 12 ∧ E h mdX10_searchOf [.ref x0, .int x1] M (fun r M2 => mE M M2 → ∃ o3 : Option Nat, r = some (va_rf o3) ∧ (o3 = none → DX10_always_36 h  M2 Q) ∧
  (∀ b4 : Nat, o3 = some b4 → ok M2 b4 7 ∧ ∃ b6 : Nat, mR M2 b4 0 = some b6 ∧ ok M2 b6 3 ∧ E h mdX1_hasSignal [.ref b6, .int x2] M2 (fun r M8 => mE M2 M8 → ∃ r9 : Int32, r = some (.int r9) ∧ (r9 = 0 → DX10_always_36 h  M8 Q) ∧
  (¬ (r9 = 0) → ∃ b10 : Nat, mR M8 b4 0 = some b10 ∧ ok M8 b10 3 ∧ E h mdX1_hasSignal [.ref b10, .int x3] M8 (fun r M12 => mE M8 M12 → ∃ r13 : Int32, r = some (.int r13) ∧ (¬ r13 = 0 → E h mdX5_firstAgainst [.ref b4, .int ((1 : Int32) <<< (x2 &&& 31)), .int ((1 : Int32) <<< (x3 &&& 31))] M12 (fun r M14 => mE M12 M14 → ∃ r15 : Int32, r = some (.int r15) ∧ E h mdX10_judge [.ref x0, .int r15] M14 (fun r M16 => mE M14 M16 → ∃ r17 : Int32, r = some (.int r17) ∧ Q (some (.int r17)) M16))) ∧
  (r13 = 0 → DX10_always_36 h  M12 Q))))))
set_option maxRecDepth 20000 in
set_option maxHeartbeats 2000000 in
theorem VX10_always_0 {h : Nat} {x0 : Nat} {x1 : Int32} {x2 : Int32} {x3 : Int32} {M : Mem} {Q : Option Value → Mem → Prop} (H : DX10_always_0 h x0 x1 x2 x3 M Q) : T (h + 1) mdX10_always 0 [(0, .ref x0), (1, .int x1), (2, .int x2), (3, .int x3)] [] M Q := by
  unfold DX10_always_0 at H
  refine xt_aload_n (j := 0) dX10_always_0 rfl rfl ?_
  refine xt_iload_n (j := 1) dX10_always_1 rfl rfl ?_
  obtain ⟨ho1, H⟩ := H
  refine xt_callV (h2 := h) (as := [.int x1]) (st := []) dX10_always_2 (mlX10_202 rfl) rfl ho1.1 ⟨by rw [ho1.2]; rfl, by rw [ho1.2]; decide⟩ (by first | decide | (simp [Value.category]; done)) (Nat.le_refl _) H (fun r M2 HH hE => ?_)
  obtain ⟨o3, hr, H⟩ := HH hE
  subst hr
  have ho1 := ok_E ho1 hE
  show T _ _ _ _ [va_rf o3] _ _
  refine xt_astoreO (lv' := [(4, va_rf o3), (0, .ref x0), (1, .int x1), (2, .int x2), (3, .int x3)]) dX10_always_5 (by decide) rfl ?_
  refine xt_aloadO (j := 0) dX10_always_7 rfl ?_
  rcases ho : o3 with _ | b4
  · have H := H.1 ho
    try rw [ho]
    show T _ _ _ [(4, .null), (0, .ref x0), (1, .int x1), (2, .int x2), (3, .int x3)] [.null] _ _
    refine xt_ifnullN (tgt := 36) dX10_always_9 (by decide) ?_
    exact xt_sub [] rfl (VX10_always_36 H)
  · have H := H.2 _ ho
    try rw [ho]
    show T _ _ _ [(4, .ref b4), (0, .ref x0), (1, .int x1), (2, .int x2), (3, .int x3)] [.ref b4] _ _
    refine xt_ifnull dX10_always_9 ?_
    refine xt_aload (j := 0) dX10_always_12 rfl ?_
    obtain ⟨ho5, H⟩ := H
    obtain ⟨b6, hb, H⟩ := H
    refine xt_getR dX10_always_14 (flX10_231 rfl) ft_7_0 ho5.1 ho5.2 hb ?_
    refine xt_iload_n (j := 3) dX10_always_17 rfl rfl ?_
    obtain ⟨ho7, H⟩ := H
    refine xt_callV (h2 := h) (as := [.int x2]) (st := []) dX10_always_18 (mlX10_163 rfl) rfl ho7.1 ⟨by rw [ho7.2]; rfl, by rw [ho7.2]; decide⟩ (by first | decide | (simp [Value.category]; done)) (Nat.le_refl _) H (fun r M8 HH hE => ?_)
    obtain ⟨r9, hr, H⟩ := HH hE
    subst hr
    have ho1 := ok_E ho1 hE
    have ho5 := ok_E ho5 hE
    show T _ _ _ _ [.int r9] _ _
    refine xt_if_eq (tgt := 36) dX10_always_21 (by decide) (fun hc => ?_) (fun hc => ?_)
    · have H := H.1 hc
      exact xt_sub [] rfl (VX10_always_36 H)
    · have H := H.2 hc
      refine xt_aload (j := 0) dX10_always_24 rfl ?_
      obtain ⟨b10, hb, H⟩ := H
      refine xt_getR dX10_always_26 (flX10_231 rfl) ft_7_0 ho5.1 ho5.2 hb ?_
      refine xt_iload_n (j := 4) dX10_always_29 rfl rfl ?_
      obtain ⟨ho11, H⟩ := H
      refine xt_callV (h2 := h) (as := [.int x3]) (st := []) dX10_always_30 (mlX10_163 rfl) rfl ho11.1 ⟨by rw [ho11.2]; rfl, by rw [ho11.2]; decide⟩ (by first | decide | (simp [Value.category]; done)) (Nat.le_refl _) H (fun r M12 HH hE => ?_)
      obtain ⟨r13, hr, H⟩ := HH hE
      subst hr
      have ho1 := ok_E ho1 hE
      have ho5 := ok_E ho5 hE
      show T _ _ _ _ [.int r13] _ _
      refine xt_if_ne (tgt := 39) dX10_always_33 (by decide) (fun hc => ?_) (fun hc => ?_)
      · have H := H.1 hc
        refine xt_aload_n (j := 1) dX10_always_39 rfl rfl ?_
        refine xt_aload (j := 0) dX10_always_40 rfl ?_
        refine xt_iconst (v := 1) dX10_always_42 (by decide) ?_
        refine xt_iload_n (j := 3) dX10_always_43 rfl rfl ?_
        refine xt_ishl dX10_always_44 ?_
        refine xt_iconst (v := 1) dX10_always_45 (by decide) ?_
        refine xt_iload_n (j := 4) dX10_always_46 rfl rfl ?_
        refine xt_ishl dX10_always_47 ?_
        refine xt_callV (h2 := h) (as := [.int ((1 : Int32) <<< (x2 &&& 31)), .int ((1 : Int32) <<< (x3 &&& 31))]) (st := [.ref x0]) dX10_always_48 (mlX10_232 rfl) rfl ho5.1 ⟨by rw [ho5.2]; rfl, by rw [ho5.2]; decide⟩ (by first | decide | (simp [Value.category]; done)) (Nat.le_refl _) H (fun r M14 HH hE => ?_)
        obtain ⟨r15, hr, H⟩ := HH hE
        subst hr
        have ho1 := ok_E ho1 hE
        have ho5 := ok_E ho5 hE
        show T _ _ _ _ [.int r15, .ref x0] _ _
        refine xt_callV (h2 := h) (as := [.int r15]) (st := []) dX10_always_51 (mlX10_235 rfl) rfl ho1.1 ⟨by rw [ho1.2]; rfl, by rw [ho1.2]; decide⟩ (by first | decide | (simp [Value.category]; done)) (Nat.le_refl _) H (fun r M16 HH hE => ?_)
        obtain ⟨r17, hr, H⟩ := HH hE
        subst hr
        have ho1 := ok_E ho1 hE
        have ho5 := ok_E ho5 hE
        show T _ _ _ _ [.int r17] _ _
        exact xt_ireturn dX10_always_54 rfl H
      · have H := H.2 hc
        exact xt_sub [] rfl (VX10_always_36 H)
theorem KX10_always {h : Nat} {x0 : Nat} {x1 : Int32} {x2 : Int32} {x3 : Int32} {M : Mem} {Q : Option Value → Mem → Prop} (H : DX10_always_0 h x0 x1 x2 x3 M Q) : E (h + 1) mdX10_always [.ref x0, .int x1, .int x2, .int x3] M Q := E.of (by decide) (Nat.le_of_ble_eq_true rfl) (fun _ _ _ => trivial) (VX10_always_0 H)
def DX10_judge_0 (h : Nat) (x0 : Nat) (x1 : Int32) (M : Mem) (Q : Option Value → Mem → Prop) : Prop :=
  (¬ x1 = (-1) → ¬ (32 : Int32) = 0 ∧ ok M x0 12 ∧ ∀ M2 : Mem, M2 = wI M x0 7 (x1 / 32) →
  ¬ (32 : Int32) = 0 ∧ ∀ M3 : Mem, M3 = wI M2 x0 8 (x1 - x1 / 32 * 32) →
  Q (some (.int 0)) M3) ∧
  (x1 = (-1) → Q (some (.int 1)) M)
set_option maxRecDepth 20000 in
set_option maxHeartbeats 2000000 in
theorem VX10_judge_0 {h : Nat} {x0 : Nat} {x1 : Int32} {M : Mem} {Q : Option Value → Mem → Prop} (H : DX10_judge_0 h x0 x1 M Q) : T (h + 1) mdX10_judge 0 [(0, .ref x0), (1, .int x1)] [] M Q := by
  unfold DX10_judge_0 at H
  refine xt_iload_n (j := 1) dX10_judge_0 rfl rfl ?_
  refine xt_iconst (v := -1) dX10_judge_1 (by decide) ?_
  refine xt_icmp_ne (tgt := 7) dX10_judge_2 (by decide) (fun hc => ?_) (fun hc => ?_)
  · have H := H.1 hc
    refine xt_aload_n (j := 0) dX10_judge_7 rfl rfl ?_
    refine xt_iload_n (j := 1) dX10_judge_8 rfl rfl ?_
    refine xt_bipush (v := 32) dX10_judge_9 (by decide) ?_
    obtain ⟨hne, H⟩ := H
    refine xt_idiv dX10_judge_11 hne ?_
    obtain ⟨ho1, H⟩ := H
    obtain ⟨M2, eM2⟩ : ∃ z, z = wI M x0 7 (x1 / 32) := ⟨_, rfl⟩
    have H := H _ eM2
    refine xt_putI dX10_judge_12 (flX10_44 rfl) ty_12_7 rfl ho1.1 ho1.2 ?_
    have ho1 : ok M2 x0 12 := by rw [eM2]; exact ho1
    rw [← eM2]
    refine xt_aload_n (j := 0) dX10_judge_15 rfl rfl ?_
    refine xt_iload_n (j := 1) dX10_judge_16 rfl rfl ?_
    refine xt_bipush (v := 32) dX10_judge_17 (by decide) ?_
    obtain ⟨hne, H⟩ := H
    refine xt_irem dX10_judge_19 hne ?_
    obtain ⟨M3, eM3⟩ : ∃ z, z = wI M2 x0 8 (x1 - x1 / 32 * 32) := ⟨_, rfl⟩
    have H := H _ eM3
    refine xt_putI dX10_judge_20 (flX10_48 rfl) ty_12_8 rfl ho1.1 ho1.2 ?_
    have ho1 : ok M3 x0 12 := by rw [eM3]; exact ho1
    rw [← eM3]
    refine xt_iconst (v := 0) dX10_judge_23 (by decide) ?_
    exact xt_ireturn dX10_judge_24 rfl H
  · have H := H.2 hc
    refine xt_iconst (v := 1) dX10_judge_5 (by decide) ?_
    exact xt_ireturn dX10_judge_6 rfl H
theorem KX10_judge {h : Nat} {x0 : Nat} {x1 : Int32} {M : Mem} {Q : Option Value → Mem → Prop} (H : DX10_judge_0 h x0 x1 M Q) : E (h + 1) mdX10_judge [.ref x0, .int x1] M Q := E.of (by decide) (Nat.le_of_ble_eq_true rfl) (fun _ _ _ => trivial) (VX10_judge_0 H)
def DX10_against_22 (h : Nat) (s0 : Int32) (M : Mem) (Q : Option Value → Mem → Prop) : Prop :=
  Q (some (.int s0)) M
set_option maxRecDepth 20000 in
set_option maxHeartbeats 2000000 in
theorem VX10_against_22 {h : Nat} {s0 : Int32} {M : Mem} {Q : Option Value → Mem → Prop} (H : DX10_against_22 h s0 M Q) : T (h + 1) mdX10_against 22 [] [.int s0] M Q := by
  unfold DX10_against_22 at H
  exact xt_ireturn dX10_against_22 rfl H
def DX10_against_0 (h : Nat) (x0 : Nat) (x1 : Int32) (M : Mem) (Q : Option Value → Mem → Prop) : Prop :=
  (¬ x1 = 0 → (¬ x1 = 1 → DX10_against_22 h (-1) M Q) ∧
  (x1 = 1 → ok M x0 12 ∧ DX10_against_22 h (mI M x0 8) M Q)) ∧
  (x1 = 0 → ok M x0 12 ∧ Q (some (.int (mI M x0 7))) M)
set_option maxRecDepth 20000 in
set_option maxHeartbeats 2000000 in
theorem VX10_against_0 {h : Nat} {x0 : Nat} {x1 : Int32} {M : Mem} {Q : Option Value → Mem → Prop} (H : DX10_against_0 h x0 x1 M Q) : T (h + 1) mdX10_against 0 [(0, .ref x0), (1, .int x1)] [] M Q := by
  unfold DX10_against_0 at H
  refine xt_iload_n (j := 1) dX10_against_0 rfl rfl ?_
  refine xt_if_ne (tgt := 9) dX10_against_1 (by decide) (fun hc => ?_) (fun hc => ?_)
  · have H := H.1 hc
    refine xt_iload_n (j := 1) dX10_against_9 rfl rfl ?_
    refine xt_iconst (v := 1) dX10_against_10 (by decide) ?_
    refine xt_icmp_ne (tgt := 21) dX10_against_11 (by decide) (fun hc => ?_) (fun hc => ?_)
    · have H := H.1 hc
      refine xt_iconst (v := -1) dX10_against_21 (by decide) ?_
      exact xt_sub [] rfl (VX10_against_22 H)
    · have H := H.2 hc
      refine xt_aload_n (j := 0) dX10_against_14 rfl rfl ?_
      obtain ⟨ho1, H⟩ := H
      refine xt_getI dX10_against_15 (flX10_48 rfl) ft_12_8 ho1.1 ho1.2 ?_
      refine xt_goto (tgt := 22) dX10_against_18 (by decide) ?_
      exact xt_sub [] rfl (VX10_against_22 H)
  · have H := H.2 hc
    refine xt_aload_n (j := 0) dX10_against_4 rfl rfl ?_
    obtain ⟨ho2, H⟩ := H
    refine xt_getI dX10_against_5 (flX10_44 rfl) ft_12_7 ho2.1 ho2.2 ?_
    exact xt_ireturn dX10_against_8 rfl H
theorem KX10_against {h : Nat} {x0 : Nat} {x1 : Int32} {M : Mem} {Q : Option Value → Mem → Prop} (H : DX10_against_0 h x0 x1 M Q) : E (h + 1) mdX10_against [.ref x0, .int x1] M Q := E.of (by decide) (Nat.le_of_ble_eq_true rfl) (fun _ _ _ => trivial) (VX10_against_0 H)
def DX10_count_0 (h : Nat) (x0 : Nat) (x1 : Int32) (M : Mem) (Q : Option Value → Mem → Prop) : Prop :=
  (x1 = 0 → ok M x0 12 ∧ ∃ b2 : Nat, mR M x0 2 = some b2 ∧ ok M b2 1 ∧ E h mdJx4a65c_size_8abf5 [.ref b2] M (fun r M4 => mE M M4 → ∃ r5 : Int32, r = some (.int r5) ∧ Q (some (.int r5)) M4)) ∧
  (x1 = 1 → ok M x0 12 ∧ ∃ b7 : Nat, mR M x0 3 = some b7 ∧ ok M b7 1 ∧ E h mdJx4a65c_size_8abf5 [.ref b7] M (fun r M9 => mE M M9 → ∃ r10 : Int32, r = some (.int r10) ∧ Q (some (.int r10)) M9)) ∧
  (x1 = 2 → ok M x0 12 ∧ Q (some (.int (mI M x0 1))) M) ∧
  (((x1 : Int32).toInt < 0 ∨ 2 < (x1 : Int32).toInt) → Q (some (.int (-1))) M)
set_option maxRecDepth 20000 in
set_option maxHeartbeats 2000000 in
theorem VX10_count_0 {h : Nat} {x0 : Nat} {x1 : Int32} {M : Mem} {Q : Option Value → Mem → Prop} (H : DX10_count_0 h x0 x1 M Q) : T (h + 1) mdX10_count 0 [(0, .ref x0), (1, .int x1)] [] M Q := by
  unfold DX10_count_0 at H
  refine xt_iload_n (j := 1) dX10_count_0 rfl rfl ?_
  by_cases hsw : (x1 : Int32).toInt < 0 ∨ 2 < (x1 : Int32).toInt
  · refine xt_tableOut (tgt := 49) dX10_count_1 hsw (by decide) ?_
    have H := H.2.2.2 hsw
    refine xt_iconst (v := -1) dX10_count_49 (by decide) ?_
    exact xt_ireturn dX10_count_50 rfl H
  · have hsw2 : (x1 : Int32).toInt = 0 ∨ (x1 : Int32).toInt = 1 ∨ (x1 : Int32).toInt = 2 := by omega
    rcases hsw2 with hv | hv | hv
    · have hx : x1 = 0 := i32_ofInt hv
      have H := H.1 hx
      refine xt_tableIn (tgt := 28) dX10_count_1 (by omega) (by omega) (by rw [hv]; rfl) (by decide) ?_
      refine xt_aload_n (j := 0) dX10_count_28 rfl rfl ?_
      obtain ⟨ho1, H⟩ := H
      obtain ⟨b2, hb, H⟩ := H
      refine xt_getR dX10_count_29 (flX10_16 rfl) ft_12_2 ho1.1 ho1.2 hb ?_
      obtain ⟨ho3, H⟩ := H
      refine xt_callV (h2 := h) (as := []) (st := []) dX10_count_32 (mlX10_58 rfl) rfl ho3.1 ⟨by rw [ho3.2]; rfl, by rw [ho3.2]; decide⟩ (by first | decide | (simp [Value.category]; done)) (Nat.le_refl _) H (fun r M4 HH hE => ?_)
      obtain ⟨r5, hr, H⟩ := HH hE
      subst hr
      have ho1 := ok_E ho1 hE
      show T _ _ _ _ [.int r5] _ _
      exact xt_ireturn dX10_count_35 rfl H
    · have hx : x1 = 1 := i32_ofInt hv
      have H := H.2.1 hx
      refine xt_tableIn (tgt := 36) dX10_count_1 (by omega) (by omega) (by rw [hv]; rfl) (by decide) ?_
      refine xt_aload_n (j := 0) dX10_count_36 rfl rfl ?_
      obtain ⟨ho6, H⟩ := H
      obtain ⟨b7, hb, H⟩ := H
      refine xt_getR dX10_count_37 (flX10_20 rfl) ft_12_3 ho6.1 ho6.2 hb ?_
      obtain ⟨ho8, H⟩ := H
      refine xt_callV (h2 := h) (as := []) (st := []) dX10_count_40 (mlX10_58 rfl) rfl ho8.1 ⟨by rw [ho8.2]; rfl, by rw [ho8.2]; decide⟩ (by first | decide | (simp [Value.category]; done)) (Nat.le_refl _) H (fun r M9 HH hE => ?_)
      obtain ⟨r10, hr, H⟩ := HH hE
      subst hr
      have ho6 := ok_E ho6 hE
      show T _ _ _ _ [.int r10] _ _
      exact xt_ireturn dX10_count_43 rfl H
    · have hx : x1 = 2 := i32_ofInt hv
      have H := H.2.2.1 hx
      refine xt_tableIn (tgt := 44) dX10_count_1 (by omega) (by omega) (by rw [hv]; rfl) (by decide) ?_
      refine xt_aload_n (j := 0) dX10_count_44 rfl rfl ?_
      obtain ⟨ho11, H⟩ := H
      refine xt_getI dX10_count_45 (flX10_51 rfl) ft_12_1 ho11.1 ho11.2 ?_
      exact xt_ireturn dX10_count_48 rfl H
theorem KX10_count {h : Nat} {x0 : Nat} {x1 : Int32} {M : Mem} {Q : Option Value → Mem → Prop} (H : DX10_count_0 h x0 x1 M Q) : E (h + 1) mdX10_count [.ref x0, .int x1] M Q := E.of (by decide) (Nat.le_of_ble_eq_true rfl) (fun _ _ _ => trivial) (VX10_count_0 H)
def DX10_clear_0 (h : Nat) (x0 : Nat) (M : Mem) (Q : Option Value → Mem → Prop) : Prop :=
  ok M x0 12 ∧ ∃ b2 : Nat, mR M x0 2 = some b2 ∧ ok M b2 1 ∧ E h mdJx4a65c_size_8abf5 [.ref b2] M (fun r M4 => mE M M4 → ∃ r5 : Int32, r = some (.int r5) ∧ ∃ b6 : Nat, mR M4 x0 2 = some b6 ∧ ok M4 b6 1 ∧ E h mdJx4a65c_clear_da8c8 [.ref b6] M4 (fun r M8 => mE M4 M8 → r = none ∧ ∃ b9 : Nat, mR M8 x0 3 = some b9 ∧ ok M8 b9 1 ∧ E h mdJx4a65c_clear_da8c8 [.ref b9] M8 (fun r M11 => mE M8 M11 → r = none ∧ Q (some (.int r5)) M11)))
set_option maxRecDepth 20000 in
set_option maxHeartbeats 2000000 in
theorem VX10_clear_0 {h : Nat} {x0 : Nat} {M : Mem} {Q : Option Value → Mem → Prop} (H : DX10_clear_0 h x0 M Q) : T (h + 1) mdX10_clear 0 [(0, .ref x0)] [] M Q := by
  unfold DX10_clear_0 at H
  refine xt_aload_n (j := 0) dX10_clear_0 rfl rfl ?_
  obtain ⟨ho1, H⟩ := H
  obtain ⟨b2, hb, H⟩ := H
  refine xt_getR dX10_clear_1 (flX10_16 rfl) ft_12_2 ho1.1 ho1.2 hb ?_
  obtain ⟨ho3, H⟩ := H
  refine xt_callV (h2 := h) (as := []) (st := []) dX10_clear_4 (mlX10_58 rfl) rfl ho3.1 ⟨by rw [ho3.2]; rfl, by rw [ho3.2]; decide⟩ (by first | decide | (simp [Value.category]; done)) (Nat.le_refl _) H (fun r M4 HH hE => ?_)
  obtain ⟨r5, hr, H⟩ := HH hE
  subst hr
  have ho1 := ok_E ho1 hE
  show T _ _ _ _ [.int r5] _ _
  refine xt_istore_n (lv' := [(1, .int r5), (0, .ref x0)]) dX10_clear_7 rfl (by decide) rfl ?_
  refine xt_aload_n (j := 1) dX10_clear_8 rfl rfl ?_
  obtain ⟨b6, hb, H⟩ := H
  refine xt_getR dX10_clear_9 (flX10_16 rfl) ft_12_2 ho1.1 ho1.2 hb ?_
  obtain ⟨ho7, H⟩ := H
  refine xt_callV (h2 := h) (as := []) (st := []) dX10_clear_12 (mlX10_238 rfl) rfl ho7.1 ⟨by rw [ho7.2]; rfl, by rw [ho7.2]; decide⟩ (by first | decide | (simp [Value.category]; done)) (Nat.le_refl _) H (fun r M8 HH hE => ?_)
  obtain ⟨hr, H⟩ := HH hE
  subst hr
  have ho1 := ok_E ho1 hE
  show T _ _ _ _ [] _ _
  refine xt_aload_n (j := 1) dX10_clear_15 rfl rfl ?_
  obtain ⟨b9, hb, H⟩ := H
  refine xt_getR dX10_clear_16 (flX10_20 rfl) ft_12_3 ho1.1 ho1.2 hb ?_
  obtain ⟨ho10, H⟩ := H
  refine xt_callV (h2 := h) (as := []) (st := []) dX10_clear_19 (mlX10_238 rfl) rfl ho10.1 ⟨by rw [ho10.2]; rfl, by rw [ho10.2]; decide⟩ (by first | decide | (simp [Value.category]; done)) (Nat.le_refl _) H (fun r M11 HH hE => ?_)
  obtain ⟨hr, H⟩ := HH hE
  subst hr
  have ho1 := ok_E ho1 hE
  show T _ _ _ _ [] _ _
  refine xt_iload_n (j := 0) dX10_clear_22 rfl rfl ?_
  exact xt_ireturn dX10_clear_23 rfl H
theorem KX10_clear {h : Nat} {x0 : Nat} {M : Mem} {Q : Option Value → Mem → Prop} (H : DX10_clear_0 h x0 M Q) : E (h + 1) mdX10_clear [.ref x0] M Q := E.of (by decide) (Nat.le_of_ble_eq_true rfl) (fun _ _ _ => trivial) (VX10_clear_0 H)
def DX10_moduleAt_30 (h : Nat) (s0 : Option Nat) (M : Mem) (Q : Option Value → Mem → Prop) : Prop :=
  Q (some (va_rf s0)) M
set_option maxRecDepth 20000 in
set_option maxHeartbeats 2000000 in
theorem VX10_moduleAt_30 {h : Nat} {s0 : Option Nat} {M : Mem} {Q : Option Value → Mem → Prop} (H : DX10_moduleAt_30 h s0 M Q) : T (h + 1) mdX10_moduleAt 30 [] [va_rf s0] M Q := by
  unfold DX10_moduleAt_30 at H
  exact xt_areturnO dX10_moduleAt_30 rfl (Or.inl ⟨_, rfl⟩) H
def DX10_moduleAt_15 (h : Nat) (M : Mem) (Q : Option Value → Mem → Prop) : Prop :=
  DX10_moduleAt_30 h none M Q
set_option maxRecDepth 20000 in
set_option maxHeartbeats 2000000 in
theorem VX10_moduleAt_15 {h : Nat} {M : Mem} {Q : Option Value → Mem → Prop} (H : DX10_moduleAt_15 h  M Q) : T (h + 1) mdX10_moduleAt 15 [] [] M Q := by
  unfold DX10_moduleAt_15 at H
  refine xt_null dX10_moduleAt_15 ?_
  refine xt_goto (tgt := 30) dX10_moduleAt_16 (by decide) ?_
  exact xt_sub [] rfl (VX10_moduleAt_30 H)
def DX10_moduleAt_0 (h : Nat) (x0 : Nat) (x1 : Int32) (M : Mem) (Q : Option Value → Mem → Prop) : Prop :=
  (x1 < 0 → DX10_moduleAt_15 h  M Q) ∧
  (¬ (x1 < 0) → ok M x0 12 ∧ ∃ b2 : Nat, mR M x0 2 = some b2 ∧ ok M b2 1 ∧ E h mdJx4a65c_size_8abf5 [.ref b2] M (fun r M4 => mE M M4 → ∃ r5 : Int32, r = some (.int r5) ∧ (x1 < r5 → ∃ b6 : Nat, mR M4 x0 2 = some b6 ∧ ok M4 b6 1 ∧ E h mdJx4a65c_get_915e3 [.ref b6, .int x1] M4 (fun r M8 => mE M4 M8 → ∃ b9 : Nat, r = some (.ref b9) ∧ ok M8 b9 3 ∧ DX10_moduleAt_30 h (some b9) M8 Q)) ∧
  (¬ (x1 < r5) → DX10_moduleAt_15 h  M4 Q)))
set_option maxRecDepth 20000 in
set_option maxHeartbeats 2000000 in
theorem VX10_moduleAt_0 {h : Nat} {x0 : Nat} {x1 : Int32} {M : Mem} {Q : Option Value → Mem → Prop} (H : DX10_moduleAt_0 h x0 x1 M Q) : T (h + 1) mdX10_moduleAt 0 [(0, .ref x0), (1, .int x1)] [] M Q := by
  unfold DX10_moduleAt_0 at H
  refine xt_iload_n (j := 1) dX10_moduleAt_0 rfl rfl ?_
  refine xt_if_lt (tgt := 15) dX10_moduleAt_1 (by decide) (fun hc => ?_) (fun hc => ?_)
  · have H := H.1 hc
    exact xt_sub [] rfl (VX10_moduleAt_15 H)
  · have H := H.2 hc
    refine xt_iload_n (j := 1) dX10_moduleAt_4 rfl rfl ?_
    refine xt_aload_n (j := 0) dX10_moduleAt_5 rfl rfl ?_
    obtain ⟨ho1, H⟩ := H
    obtain ⟨b2, hb, H⟩ := H
    refine xt_getR dX10_moduleAt_6 (flX10_16 rfl) ft_12_2 ho1.1 ho1.2 hb ?_
    obtain ⟨ho3, H⟩ := H
    refine xt_callV (h2 := h) (as := []) (st := [.int x1]) dX10_moduleAt_9 (mlX10_58 rfl) rfl ho3.1 ⟨by rw [ho3.2]; rfl, by rw [ho3.2]; decide⟩ (by first | decide | (simp [Value.category]; done)) (Nat.le_refl _) H (fun r M4 HH hE => ?_)
    obtain ⟨r5, hr, H⟩ := HH hE
    subst hr
    have ho1 := ok_E ho1 hE
    show T _ _ _ _ [.int r5, .int x1] _ _
    refine xt_icmp_lt (tgt := 19) dX10_moduleAt_12 (by decide) (fun hc => ?_) (fun hc => ?_)
    · have H := H.1 hc
      refine xt_aload_n (j := 0) dX10_moduleAt_19 rfl rfl ?_
      obtain ⟨b6, hb, H⟩ := H
      refine xt_getR dX10_moduleAt_20 (flX10_16 rfl) ft_12_2 ho1.1 ho1.2 hb ?_
      refine xt_iload_n (j := 1) dX10_moduleAt_23 rfl rfl ?_
      obtain ⟨ho7, H⟩ := H
      refine xt_callV (h2 := h) (as := [.int x1]) (st := []) dX10_moduleAt_24 (mlX10_128 rfl) rfl ho7.1 ⟨by rw [ho7.2]; rfl, by rw [ho7.2]; decide⟩ (by first | decide | (simp [Value.category]; done)) (Nat.le_refl _) H (fun r M8 HH hE => ?_)
      obtain ⟨b9, hr, H⟩ := HH hE
      subst hr
      have ho1 := ok_E ho1 hE
      show T _ _ _ _ [.ref b9] _ _
      obtain ⟨ho10, H⟩ := H
      refine xt_cast dX10_moduleAt_27 (ccX10_93 rfl) ho10.1 ho10.2 ?_
      exact xt_sub [] rfl (VX10_moduleAt_30 H)
    · have H := H.2 hc
      exact xt_sub [] rfl (VX10_moduleAt_15 H)
theorem KX10_moduleAt {h : Nat} {x0 : Nat} {x1 : Int32} {M : Mem} {Q : Option Value → Mem → Prop} (H : DX10_moduleAt_0 h x0 x1 M Q) : E (h + 1) mdX10_moduleAt [.ref x0, .int x1] M Q := E.of (by decide) (Nat.le_of_ble_eq_true rfl) (fun _ _ _ => trivial) (VX10_moduleAt_0 H)
def DX10_governorAt_30 (h : Nat) (s0 : Option Nat) (M : Mem) (Q : Option Value → Mem → Prop) : Prop :=
  Q (some (va_rf s0)) M
set_option maxRecDepth 20000 in
set_option maxHeartbeats 2000000 in
theorem VX10_governorAt_30 {h : Nat} {s0 : Option Nat} {M : Mem} {Q : Option Value → Mem → Prop} (H : DX10_governorAt_30 h s0 M Q) : T (h + 1) mdX10_governorAt 30 [] [va_rf s0] M Q := by
  unfold DX10_governorAt_30 at H
  exact xt_areturnO dX10_governorAt_30 rfl (Or.inl ⟨_, rfl⟩) H
def DX10_governorAt_15 (h : Nat) (M : Mem) (Q : Option Value → Mem → Prop) : Prop :=
  DX10_governorAt_30 h none M Q
set_option maxRecDepth 20000 in
set_option maxHeartbeats 2000000 in
theorem VX10_governorAt_15 {h : Nat} {M : Mem} {Q : Option Value → Mem → Prop} (H : DX10_governorAt_15 h  M Q) : T (h + 1) mdX10_governorAt 15 [] [] M Q := by
  unfold DX10_governorAt_15 at H
  refine xt_null dX10_governorAt_15 ?_
  refine xt_goto (tgt := 30) dX10_governorAt_16 (by decide) ?_
  exact xt_sub [] rfl (VX10_governorAt_30 H)
def DX10_governorAt_0 (h : Nat) (x0 : Nat) (x1 : Int32) (M : Mem) (Q : Option Value → Mem → Prop) : Prop :=
  (x1 < 0 → DX10_governorAt_15 h  M Q) ∧
  (¬ (x1 < 0) → ok M x0 12 ∧ ∃ b2 : Nat, mR M x0 3 = some b2 ∧ ok M b2 1 ∧ E h mdJx4a65c_size_8abf5 [.ref b2] M (fun r M4 => mE M M4 → ∃ r5 : Int32, r = some (.int r5) ∧ (x1 < r5 → ∃ b6 : Nat, mR M4 x0 3 = some b6 ∧ ok M4 b6 1 ∧ E h mdJx4a65c_get_915e3 [.ref b6, .int x1] M4 (fun r M8 => mE M4 M8 → ∃ b9 : Nat, r = some (.ref b9) ∧ ok M8 b9 4 ∧ DX10_governorAt_30 h (some b9) M8 Q)) ∧
  (¬ (x1 < r5) → DX10_governorAt_15 h  M4 Q)))
set_option maxRecDepth 20000 in
set_option maxHeartbeats 2000000 in
theorem VX10_governorAt_0 {h : Nat} {x0 : Nat} {x1 : Int32} {M : Mem} {Q : Option Value → Mem → Prop} (H : DX10_governorAt_0 h x0 x1 M Q) : T (h + 1) mdX10_governorAt 0 [(0, .ref x0), (1, .int x1)] [] M Q := by
  unfold DX10_governorAt_0 at H
  refine xt_iload_n (j := 1) dX10_governorAt_0 rfl rfl ?_
  refine xt_if_lt (tgt := 15) dX10_governorAt_1 (by decide) (fun hc => ?_) (fun hc => ?_)
  · have H := H.1 hc
    exact xt_sub [] rfl (VX10_governorAt_15 H)
  · have H := H.2 hc
    refine xt_iload_n (j := 1) dX10_governorAt_4 rfl rfl ?_
    refine xt_aload_n (j := 0) dX10_governorAt_5 rfl rfl ?_
    obtain ⟨ho1, H⟩ := H
    obtain ⟨b2, hb, H⟩ := H
    refine xt_getR dX10_governorAt_6 (flX10_20 rfl) ft_12_3 ho1.1 ho1.2 hb ?_
    obtain ⟨ho3, H⟩ := H
    refine xt_callV (h2 := h) (as := []) (st := [.int x1]) dX10_governorAt_9 (mlX10_58 rfl) rfl ho3.1 ⟨by rw [ho3.2]; rfl, by rw [ho3.2]; decide⟩ (by first | decide | (simp [Value.category]; done)) (Nat.le_refl _) H (fun r M4 HH hE => ?_)
    obtain ⟨r5, hr, H⟩ := HH hE
    subst hr
    have ho1 := ok_E ho1 hE
    show T _ _ _ _ [.int r5, .int x1] _ _
    refine xt_icmp_lt (tgt := 19) dX10_governorAt_12 (by decide) (fun hc => ?_) (fun hc => ?_)
    · have H := H.1 hc
      refine xt_aload_n (j := 0) dX10_governorAt_19 rfl rfl ?_
      obtain ⟨b6, hb, H⟩ := H
      refine xt_getR dX10_governorAt_20 (flX10_20 rfl) ft_12_3 ho1.1 ho1.2 hb ?_
      refine xt_iload_n (j := 1) dX10_governorAt_23 rfl rfl ?_
      obtain ⟨ho7, H⟩ := H
      refine xt_callV (h2 := h) (as := [.int x1]) (st := []) dX10_governorAt_24 (mlX10_128 rfl) rfl ho7.1 ⟨by rw [ho7.2]; rfl, by rw [ho7.2]; decide⟩ (by first | decide | (simp [Value.category]; done)) (Nat.le_refl _) H (fun r M8 HH hE => ?_)
      obtain ⟨b9, hr, H⟩ := HH hE
      subst hr
      have ho1 := ok_E ho1 hE
      show T _ _ _ _ [.ref b9] _ _
      obtain ⟨ho10, H⟩ := H
      refine xt_cast dX10_governorAt_27 (ccX10_137 rfl) ho10.1 ho10.2 ?_
      exact xt_sub [] rfl (VX10_governorAt_30 H)
    · have H := H.2 hc
      exact xt_sub [] rfl (VX10_governorAt_15 H)
theorem KX10_governorAt {h : Nat} {x0 : Nat} {x1 : Int32} {M : Mem} {Q : Option Value → Mem → Prop} (H : DX10_governorAt_0 h x0 x1 M Q) : E (h + 1) mdX10_governorAt [.ref x0, .int x1] M Q := E.of (by decide) (Nat.le_of_ble_eq_true rfl) (fun _ _ _ => trivial) (VX10_governorAt_0 H)
def DX10_searchOf_56 (h : Nat) (s0 : Option Nat) (M : Mem) (Q : Option Value → Mem → Prop) : Prop :=
  Q (some (va_rf s0)) M
set_option maxRecDepth 20000 in
set_option maxHeartbeats 2000000 in
theorem VX10_searchOf_56 {h : Nat} {s0 : Option Nat} {M : Mem} {Q : Option Value → Mem → Prop} (H : DX10_searchOf_56 h s0 M Q) : T (h + 1) mdX10_searchOf 56 [] [va_rf s0] M Q := by
  unfold DX10_searchOf_56 at H
  exact xt_areturnO dX10_searchOf_56 rfl (Or.inl ⟨_, rfl⟩) H
def DX10_searchOf_38 (h : Nat) (x2 : Option Nat) (M : Mem) (Q : Option Value → Mem → Prop) : Prop :=
  ∃ b1 : Nat, x2 = some b1 ∧ ok M b1 3 ∧ ∃ b3 : Nat, (mR M b1 17) = some b3 ∧ ok M b3 7 ∧ ((mI M b3 2) = 0 → DX10_searchOf_56 h (mR M b1 17) M Q) ∧
  (¬ ((mI M b3 2) = 0) → DX10_searchOf_56 h none M Q)
set_option maxRecDepth 20000 in
set_option maxHeartbeats 2000000 in
theorem VX10_searchOf_38 {h : Nat} {x2 : Option Nat} {M : Mem} {Q : Option Value → Mem → Prop} (H : DX10_searchOf_38 h x2 M Q) : T (h + 1) mdX10_searchOf 38 [(2, va_rf x2)] [] M Q := by
  unfold DX10_searchOf_38 at H
  refine xt_aload_nO (j := 0) dX10_searchOf_38 rfl rfl ?_
  obtain ⟨b1, ho, H⟩ := H
  try rw [ho]
  show T _ _ _ [(2, .ref b1)] [.ref b1] _ _
  obtain ⟨ho2, H⟩ := H
  refine xt_getO dX10_searchOf_39 (flX10_241 rfl) ft_3_17 ho2.1 ho2.2 ?_
  obtain ⟨b3, ho, H⟩ := H
  try rw [ho]
  show T _ _ _ [(2, .ref b1)] [.ref b3] _ _
  obtain ⟨ho4, H⟩ := H
  refine xt_getI dX10_searchOf_42 (flX10_250 rfl) ft_7_2 ho4.1 ho4.2 ?_
  refine xt_if_eq (tgt := 52) dX10_searchOf_45 (by decide) (fun hc => ?_) (fun hc => ?_)
  · have H := H.1 hc
    refine xt_aload_n (j := 0) dX10_searchOf_52 rfl rfl ?_
    refine xt_getO dX10_searchOf_53 (flX10_241 rfl) ft_3_17 ho2.1 ho2.2 ?_
    exact xt_sub [] rfl (VX10_searchOf_56 H)
  · have H := H.2 hc
    refine xt_null dX10_searchOf_48 ?_
    refine xt_goto (tgt := 56) dX10_searchOf_49 (by decide) ?_
    exact xt_sub [] rfl (VX10_searchOf_56 H)
def DX10_searchOf_0 (h : Nat) (x0 : Nat) (x1 : Int32) (M : Mem) (Q : Option Value → Mem → Prop) : Prop :=
  ok M x0 12 ∧ E h mdX10_moduleAt [.ref x0, .int x1] M (fun r M2 => mE M M2 → ∃ o3 : Option Nat, r = some (va_rf o3) ∧ (o3 = none → Q (some .null) M2) ∧
  (∀ b4 : Nat, o3 = some b4 → ok M2 b4 3 ∧ ((mR M2 b4 17) = none → ∀ (q8 : Nat) (M7 : Mem), q8 = mN M2 → M7 = nwO M2 7 13 →
  E h mdX5_init [.ref q8, .ref b4] M7 (fun r M9 => mE M7 M9 → r = none ∧ ∀ M10 : Mem, M10 = wR M9 b4 17 (some q8) →
  ∃ b11 : Nat, (mR M10 b4 17) = some b11 ∧ ok M10 b11 7 ∧ E h mdX5_explore [.ref b11] M10 (fun r M13 => mE M10 M13 → r = none ∧ DX10_searchOf_38 h (some b4) M13 Q))) ∧
  (∀ b6 : Nat, (mR M2 b4 17) = some b6 → DX10_searchOf_38 h (some b4) M2 Q)))
set_option maxRecDepth 20000 in
set_option maxHeartbeats 2000000 in
theorem VX10_searchOf_0 {h : Nat} {x0 : Nat} {x1 : Int32} {M : Mem} {Q : Option Value → Mem → Prop} (H : DX10_searchOf_0 h x0 x1 M Q) : T (h + 1) mdX10_searchOf 0 [(0, .ref x0), (1, .int x1)] [] M Q := by
  unfold DX10_searchOf_0 at H
  refine xt_aload_n (j := 0) dX10_searchOf_0 rfl rfl ?_
  refine xt_iload_n (j := 1) dX10_searchOf_1 rfl rfl ?_
  obtain ⟨ho1, H⟩ := H
  refine xt_callV (h2 := h) (as := [.int x1]) (st := []) dX10_searchOf_2 (mlX10_89 rfl) rfl ho1.1 ⟨by rw [ho1.2]; rfl, by rw [ho1.2]; decide⟩ (by first | decide | (simp [Value.category]; done)) (Nat.le_refl _) H (fun r M2 HH hE => ?_)
  obtain ⟨o3, hr, H⟩ := HH hE
  subst hr
  have ho1 := ok_E ho1 hE
  show T _ _ _ _ [va_rf o3] _ _
  refine xt_astore_nO (lv' := [(2, va_rf o3), (0, .ref x0), (1, .int x1)]) dX10_searchOf_5 rfl (by decide) rfl ?_
  refine xt_aload_nO (j := 0) dX10_searchOf_6 rfl rfl ?_
  rcases ho : o3 with _ | b4
  · have H := H.1 ho
    try rw [ho]
    show T _ _ _ [(2, .null), (0, .ref x0), (1, .int x1)] [.null] _ _
    refine xt_ifnonnullN dX10_searchOf_7 ?_
    refine xt_null dX10_searchOf_10 ?_
    exact xt_areturnN dX10_searchOf_11 rfl (Or.inl ⟨_, rfl⟩) H
  · have H := H.2 _ ho
    try rw [ho]
    show T _ _ _ [(2, .ref b4), (0, .ref x0), (1, .int x1)] [.ref b4] _ _
    refine xt_ifnonnull (tgt := 12) dX10_searchOf_7 (by decide) ?_
    refine xt_aload_n (j := 0) dX10_searchOf_12 rfl rfl ?_
    obtain ⟨ho5, H⟩ := H
    refine xt_getO dX10_searchOf_13 (flX10_241 rfl) ft_3_17 ho5.1 ho5.2 ?_
    rcases ho : mR M2 b4 17 with _ | b6
    · have H := H.1 ho
      try rw [ho]
      show T _ _ _ [(2, .ref b4), (0, .ref x0), (1, .int x1)] [.null] _ _
      refine xt_ifnonnullN dX10_searchOf_16 ?_
      refine xt_aload_n (j := 0) dX10_searchOf_19 rfl rfl ?_
      obtain ⟨M7, eM7⟩ : ∃ z, z = nwO M2 7 13 := ⟨_, rfl⟩
      obtain ⟨q8, eq8⟩ : ∃ z, z = mN M2 := ⟨_, rfl⟩
      have H := H _ _ eq8 eM7
      refine xt_new dX10_searchOf_20 (nlX10_207 rfl) ?_
      show T _ _ _ _ (.ref (mN M2) :: [.ref b4]) (nwO M2 7 13) _
      have ho1 : ok M7 x0 12 := by rw [eM7]; exact ok_nwO ho1
      have ho5 : ok M7 b4 3 := by rw [eM7]; exact ok_nwO ho5
      rw [← eM7, ← eq8]
      refine xt_dup dX10_searchOf_23 rfl ?_
      refine xt_aload_n (j := 0) dX10_searchOf_24 rfl rfl ?_
      refine xt_callI (h2 := h) (as := [.ref b4]) (st := [.ref q8, .ref b4]) dX10_searchOf_25 (mlX10_245 rfl) rfl (by first | decide | (simp [Value.category]; done)) (Nat.le_refl _) H (fun r M9 HH hE => ?_)
      obtain ⟨hr, H⟩ := HH hE
      subst hr
      have ho1 := ok_E ho1 hE
      have ho5 := ok_E ho5 hE
      show T _ _ _ _ [.ref q8, .ref b4] _ _
      obtain ⟨M10, eM10⟩ : ∃ z, z = wR M9 b4 17 (some q8) := ⟨_, rfl⟩
      have H := H _ eM10
      refine xt_putR dX10_searchOf_28 (flX10_241 rfl) ft_3_17 rfl ho5.1 ho5.2 ?_
      have ho1 : ok M10 x0 12 := by rw [eM10]; exact ho1
      have ho5 : ok M10 b4 3 := by rw [eM10]; exact ho5
      rw [← eM10]
      refine xt_aload_n (j := 0) dX10_searchOf_31 rfl rfl ?_
      refine xt_getO dX10_searchOf_32 (flX10_241 rfl) ft_3_17 ho5.1 ho5.2 ?_
      obtain ⟨b11, ho, H⟩ := H
      try rw [ho]
      show T _ _ _ [(2, .ref b4), (0, .ref x0), (1, .int x1)] [.ref b11] _ _
      obtain ⟨ho12, H⟩ := H
      refine xt_callV (h2 := h) (as := []) (st := []) dX10_searchOf_35 (mlX10_247 rfl) rfl ho12.1 ⟨by rw [ho12.2]; rfl, by rw [ho12.2]; decide⟩ (by first | decide | (simp [Value.category]; done)) (Nat.le_refl _) H (fun r M13 HH hE => ?_)
      obtain ⟨hr, H⟩ := HH hE
      subst hr
      have ho1 := ok_E ho1 hE
      have ho5 := ok_E ho5 hE
      show T _ _ _ _ [] _ _
      exact xt_sub [0] rfl (VX10_searchOf_38 H)
    · have H := H.2 _ ho
      try rw [ho]
      show T _ _ _ [(2, .ref b4), (0, .ref x0), (1, .int x1)] [.ref b6] _ _
      refine xt_ifnonnull (tgt := 38) dX10_searchOf_16 (by decide) ?_
      exact xt_sub [0] rfl (VX10_searchOf_38 H)
theorem KX10_searchOf {h : Nat} {x0 : Nat} {x1 : Int32} {M : Mem} {Q : Option Value → Mem → Prop} (H : DX10_searchOf_0 h x0 x1 M Q) : E (h + 1) mdX10_searchOf [.ref x0, .int x1] M Q := E.of (by decide) (Nat.le_of_ble_eq_true rfl) (fun _ _ _ => trivial) (VX10_searchOf_0 H)
