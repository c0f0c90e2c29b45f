/-! walks of the governor's constructor and of Integer.bitCount -/
theorem ok_nw3 {M : Mem} {a ci n : Nat} (h : ok M a ci) : ok (nw3 M n) a ci := ok_E h mE_nw3
theorem xt_ldcw {h : Nat} {d : MD} {pc : Nat} {lv : List (Nat × Value)} {st : List Value} {M : Mem} {Q : Option Value → Mem → Prop} {index : Nat} {v : Int32} (hd : decode d.2.1 pc = .ok (.ldc_w index, 3)) (hm : Cond.constant d.1.cls index v ∈ TB) (k : T h d (pc + 3) lv (.int v :: st) M Q) : T h d pc lv (st) M Q :=
  k.go (fun p l e R s m args below meth c H locs cells slots Q ad ls hx hb hl0 hw ht kk => lv_ldcw hx hb hw (ht _ hm) hd (kk ls hl0))
theorem ctJ6_265 {d : MD} (hc : d.1.cls = RJ6) : Cond.constant d.1.cls 265 (1431655765) ∈ TB := by rw [hc]; exact tbL tbk_6 16 (by decide +kernel) rfl
theorem ctJ6_266 {d : MD} (hc : d.1.cls = RJ6) : Cond.constant d.1.cls 266 (858993459) ∈ TB := by rw [hc]; exact tbL tbk_6 17 (by decide +kernel) rfl
theorem ctJ6_267 {d : MD} (hc : d.1.cls = RJ6) : Cond.constant d.1.cls 267 (252645135) ∈ TB := by rw [hc]; exact tbL tbk_6 18 (by decide +kernel) rfl
theorem cgX2_20 {d : MD} (hc : d.1.cls = RX2) : Cond.classLink d.1.cls 20 "[[I" ∈ TB := by rw [hc]; exact tbL tbk_6 39 (by decide +kernel) rfl
def DX2_init_73 (h : Nat) (x0 : Nat) (x1 : Nat) (x3 : Int32) (M : Mem) (Q : Option Value → Mem → Prop) : Prop :=
  ok M x1 3 ∧ ((mI M x1 12) ≤ x3 → Q none M) ∧
  (¬ ((mI M x1 12) ≤ x3) → ok M x0 4 ∧ ∃ b3 : Nat, mR M x0 2 = some b3 ∧ ∃ b4 : Nat, mR M x1 5 = some b4 ∧ ok M b4 21 ∧ vp_in x3 (mL M b4) ∧ ok M b3 21 ∧ vp_in (20 + x3) (mL M b3) ∧ ∀ M7 : Mem, M7 = wAI M b3 (20 + x3 : Int32).toNatClampNeg (mAI M b4 (x3 : Int32).toNatClampNeg) →
  T (h + 1) mdX2_init 73 [(0, .ref x0), (1, .ref x1), (3, .int (x3 + 1))] [] M7 Q)
set_option maxRecDepth 20000 in
set_option maxHeartbeats 2000000 in
theorem VX2_init_73 {h : Nat} {x0 : Nat} {x1 : Nat} {x3 : Int32} {M : Mem} {Q : Option Value → Mem → Prop} (H : DX2_init_73 h x0 x1 x3 M Q) : T (h + 1) mdX2_init 73 [(0, .ref x0), (1, .ref x1), (3, .int x3)] [] M Q := by
  unfold DX2_init_73 at H
  refine xt_iload_n (j := 2) dX2_init_73 rfl rfl ?_
  refine xt_aload_n (j := 1) dX2_init_74 rfl rfl ?_
  obtain ⟨ho1, H⟩ := H
  refine xt_getI dX2_init_75 (flX2_55 rfl) ft_3_12 ho1.1 ho1.2 ?_
  refine xt_icmp_ge (tgt := 102) dX2_init_78 (by decide) (fun hc => ?_) (fun hc => ?_)
  · have H := H.1 hc
    exact xt_return dX2_init_102 rfl H
  · have H := H.2 hc
    refine xt_aload_n (j := 0) dX2_init_81 rfl rfl ?_
    obtain ⟨ho2, H⟩ := H
    obtain ⟨b3, hb, H⟩ := H
    refine xt_getR dX2_init_82 (flX2_13 rfl) ft_4_2 ho2.1 ho2.2 hb ?_
    refine xt_bipush (v := 20) dX2_init_85 (by decide) ?_
    refine xt_iload_n (j := 2) dX2_init_87 rfl rfl ?_
    refine xt_iadd dX2_init_88 ?_
    refine xt_aload_n (j := 1) dX2_init_89 rfl rfl ?_
    obtain ⟨b4, hb, H⟩ := H
    refine xt_getR dX2_init_90 (flX2_58 rfl) ft_3_5 ho1.1 ho1.2 hb ?_
    refine xt_iload_n (j := 2) dX2_init_93 rfl rfl ?_
    obtain ⟨ho5, H⟩ := H
    obtain ⟨hi, H⟩ := H
    refine xt_iald dX2_init_94 ho5.1 ho5.2 hi ?_
    obtain ⟨ho6, H⟩ := H
    obtain ⟨hi, H⟩ := H
    obtain ⟨M7, eM7⟩ : ∃ z, z = wAI M b3 (20 + x3 : Int32).toNatClampNeg (mAI M b4 (x3 : Int32).toNatClampNeg) := ⟨_, rfl⟩
    have H := H _ eM7
    refine xt_iast dX2_init_95 ho6.1 ho6.2 hi ?_
    have ho1 : ok M7 x1 3 := by rw [eM7]; exact ho1
    have ho2 : ok M7 x0 4 := by rw [eM7]; exact ho2
    rw [← eM7]
    refine xt_iinc (j := 2) (v := x3 + 1) (lv' := [(3, .int (x3 + 1)), (0, .ref x0), (1, .ref x1)]) dX2_init_96 rfl (by rfl) (by decide) rfl ?_
    refine xt_goto (tgt := 73) dX2_init_99 (by decide) ?_
    exact xt_sub (lv' := [(0, .ref x0), (1, .ref x1), (3, .int (x3 + 1))]) [1, 2, 0] rfl H
def DX2_init_0 (h : Nat) (x0 : Nat) (x1 : Nat) (x2 : Int32) (M : Mem) (Q : Option Value → Mem → Prop) : Prop :=
  ¬ (26 : Int32) < 0 ∧ ((26 : Int32).toNatClampNeg ≤ 100000000) ∧ ∀ (q2 : Nat) (M1 : Mem), q2 = mN M → M1 = nwA M 21 ((26 : Int32).toNatClampNeg) →
  ok M1 x0 4 ∧ ∀ M4 : Mem, M4 = wR M1 x0 2 (some q2) →
  ¬ (26 : Int32) < 0 ∧ ((26 : Int32).toNatClampNeg ≤ 100000000) ∧ ∀ (q6 : Nat) (M5 : Mem), q6 = mN M4 → M5 = nwA M4 21 ((26 : Int32).toNatClampNeg) →
  ∀ M7 : Mem, M7 = wR M5 x0 3 (some q6) →
  ¬ (26 : Int32) < 0 ∧ ((26 : Int32).toNatClampNeg ≤ 1000) ∧ ∀ (q9 : Nat) (M8 : Mem), q9 = mN M7 → M8 = nw3 M7 ((26 : Int32).toNatClampNeg) →
  ∀ M10 : Mem, M10 = wR M8 x0 4 (some q9) →
  ¬ (4 : Int32) < 0 ∧ ((4 : Int32).toNatClampNeg ≤ 100000000) ∧ ∀ (q12 : Nat) (M11 : Mem), q12 = mN M10 → M11 = nwA M10 21 ((4 : Int32).toNatClampNeg) →
  ∀ M13 : Mem, M13 = wR M11 x0 7 (some q12) →
  ∀ M14 : Mem, M14 = wI M13 x0 11 (-1) →
  ∀ M15 : Mem, M15 = wI M14 x0 13 (-1) →
  ∀ M16 : Mem, M16 = wR M15 x0 0 (some x1) →
  ∀ M17 : Mem, M17 = wI M16 x0 1 x2 →
  ok M17 x1 3 ∧ ∃ b19 : Nat, mR M17 x1 6 = some b19 ∧ ok M17 b19 1 ∧ E h mdJx4a65c_size_8abf5 [.ref b19] M17 (fun r M21 => mE M17 M21 → ∃ r22 : Int32, r = some (.int r22) ∧ ¬ (r22 : Int32) < 0 ∧ ((r22 : Int32).toNatClampNeg ≤ 100000000) ∧ ∀ (q24 : Nat) (M23 : Mem), q24 = mN M21 → M23 = nwA M21 21 ((r22 : Int32).toNatClampNeg) →
  ∀ M25 : Mem, M25 = wR M23 x0 8 (some q24) →
  T (h + 1) mdX2_init 73 [(0, .ref x0), (1, .ref x1), (3, .int 0)] [] M25 Q)
set_option maxRecDepth 20000 in
set_option maxHeartbeats 2000000 in
theorem VX2_init_0 {h : Nat} {x0 : Nat} {x1 : Nat} {x2 : Int32} {M : Mem} {Q : Option Value → Mem → Prop} (H : DX2_init_0 h x0 x1 x2 M Q) : T (h + 1) mdX2_init 0 [(0, .ref x0), (1, .ref x1), (2, .int x2)] [] M Q := by
  unfold DX2_init_0 at H
  refine xt_aload_n (j := 0) dX2_init_0 rfl rfl ?_
  refine xt_objInit dX2_init_1 (oiX2_7 rfl) (by decide) (Nat.succ_le_succ (Nat.zero_le _)) ?_
  refine xt_aload_n (j := 0) dX2_init_4 rfl rfl ?_
  refine xt_bipush (v := 26) dX2_init_5 (by decide) ?_
  obtain ⟨hn, hy, H⟩ := H
  obtain ⟨M1, eM1⟩ : ∃ z, z = nwA M 21 ((26 : Int32).toNatClampNeg) := ⟨_, rfl⟩
  obtain ⟨q2, eq2⟩ : ∃ z, z = mN M := ⟨_, rfl⟩
  have H := H _ _ eq2 eM1
  refine xt_newI dX2_init_7 ac_I hn rfl hy ?_
  rw [← eM1, ← eq2]
  obtain ⟨ho3, H⟩ := H
  obtain ⟨M4, eM4⟩ : ∃ z, z = wR M1 x0 2 (some q2) := ⟨_, rfl⟩
  have H := H _ eM4
  refine xt_putR dX2_init_9 (flX2_13 rfl) ft_4_2 rfl ho3.1 ho3.2 ?_
  have ho3 : ok M4 x0 4 := by rw [eM4]; exact ho3
  rw [← eM4]
  refine xt_aload_n (j := 0) dX2_init_12 rfl rfl ?_
  refine xt_bipush (v := 26) dX2_init_13 (by decide) ?_
  obtain ⟨hn, hy, H⟩ := H
  obtain ⟨M5, eM5⟩ : ∃ z, z = nwA M4 21 ((26 : Int32).toNatClampNeg) := ⟨_, rfl⟩
  obtain ⟨q6, eq6⟩ : ∃ z, z = mN M4 := ⟨_, rfl⟩
  have H := H _ _ eq6 eM5
  refine xt_newI dX2_init_15 ac_I hn rfl hy ?_
  have ho3 : ok M5 x0 4 := by rw [eM5]; exact ok_nwA ho3
  rw [← eM5, ← eq6]
  obtain ⟨M7, eM7⟩ : ∃ z, z = wR M5 x0 3 (some q6) := ⟨_, rfl⟩
  have H := H _ eM7
  refine xt_putR dX2_init_17 (flX2_17 rfl) ft_4_3 rfl ho3.1 ho3.2 ?_
  have ho3 : ok M7 x0 4 := by rw [eM7]; exact ho3
  rw [← eM7]
  refine xt_aload_n (j := 0) dX2_init_20 rfl rfl ?_
  refine xt_iconst (v := 3) dX2_init_21 (by decide) ?_
  refine xt_bipush (v := 26) dX2_init_22 (by decide) ?_
  obtain ⟨hn, hy, H⟩ := H
  obtain ⟨M8, eM8⟩ : ∃ z, z = nw3 M7 ((26 : Int32).toNatClampNeg) := ⟨_, rfl⟩
  obtain ⟨q9, eq9⟩ : ∃ z, z = mN M7 := ⟨_, rfl⟩
  have H := H _ _ eq9 eM8
  refine xt_mul2 dX2_init_24 (cgX2_20 rfl) ac_I hn rfl hy ?_
  have ho3 : ok M8 x0 4 := by rw [eM8]; exact ok_nw3 ho3
  rw [← eM8, ← eq9]
  obtain ⟨M10, eM10⟩ : ∃ z, z = wR M8 x0 4 (some q9) := ⟨_, rfl⟩
  have H := H _ eM10
  refine xt_putR dX2_init_28 (flX2_22 rfl) ft_4_4 rfl ho3.1 ho3.2 ?_
  have ho3 : ok M10 x0 4 := by rw [eM10]; exact ho3
  rw [← eM10]
  refine xt_aload_n (j := 0) dX2_init_31 rfl rfl ?_
  refine xt_iconst (v := 4) dX2_init_32 (by decide) ?_
  obtain ⟨hn, hy, H⟩ := H
  obtain ⟨M11, eM11⟩ : ∃ z, z = nwA M10 21 ((4 : Int32).toNatClampNeg) := ⟨_, rfl⟩
  obtain ⟨q12, eq12⟩ : ∃ z, z = mN M10 := ⟨_, rfl⟩
  have H := H _ _ eq12 eM11
  refine xt_newI dX2_init_33 ac_I hn rfl hy ?_
  have ho3 : ok M11 x0 4 := by rw [eM11]; exact ok_nwA ho3
  rw [← eM11, ← eq12]
  obtain ⟨M13, eM13⟩ : ∃ z, z = wR M11 x0 7 (some q12) := ⟨_, rfl⟩
  have H := H _ eM13
  refine xt_putR dX2_init_35 (flX2_25 rfl) ft_4_7 rfl ho3.1 ho3.2 ?_
  have ho3 : ok M13 x0 4 := by rw [eM13]; exact ho3
  rw [← eM13]
  refine xt_aload_n (j := 0) dX2_init_38 rfl rfl ?_
  refine xt_iconst (v := -1) dX2_init_39 (by decide) ?_
  obtain ⟨M14, eM14⟩ : ∃ z, z = wI M13 x0 11 (-1) := ⟨_, rfl⟩
  have H := H _ eM14
  refine xt_putI dX2_init_40 (flX2_28 rfl) ty_4_11 rfl ho3.1 ho3.2 ?_
  have ho3 : ok M14 x0 4 := by rw [eM14]; exact ho3
  rw [← eM14]
  refine xt_aload_n (j := 0) dX2_init_43 rfl rfl ?_
  refine xt_iconst (v := -1) dX2_init_44 (by decide) ?_
  obtain ⟨M15, eM15⟩ : ∃ z, z = wI M14 x0 13 (-1) := ⟨_, rfl⟩
  have H := H _ eM15
  refine xt_putI dX2_init_45 (flX2_32 rfl) ty_4_13 rfl ho3.1 ho3.2 ?_
  have ho3 : ok M15 x0 4 := by rw [eM15]; exact ho3
  rw [← eM15]
  refine xt_aload_n (j := 0) dX2_init_48 rfl rfl ?_
  refine xt_aload_n (j := 1) dX2_init_49 rfl rfl ?_
  obtain ⟨M16, eM16⟩ : ∃ z, z = wR M15 x0 0 (some x1) := ⟨_, rfl⟩
  have H := H _ eM16
  refine xt_putR dX2_init_50 (flX2_35 rfl) ft_4_0 rfl ho3.1 ho3.2 ?_
  have ho3 : ok M16 x0 4 := by rw [eM16]; exact ho3
  rw [← eM16]
  refine xt_aload_n (j := 0) dX2_init_53 rfl rfl ?_
  refine xt_iload_n (j := 2) dX2_init_54 rfl rfl ?_
  obtain ⟨M17, eM17⟩ : ∃ z, z = wI M16 x0 1 x2 := ⟨_, rfl⟩
  have H := H _ eM17
  refine xt_putI dX2_init_55 (flX2_39 rfl) ty_4_1 rfl ho3.1 ho3.2 ?_
  have ho3 : ok M17 x0 4 := by rw [eM17]; exact ho3
  rw [← eM17]
  refine xt_aload_n (j := 0) dX2_init_58 rfl rfl ?_
  refine xt_aload_n (j := 1) dX2_init_59 rfl rfl ?_
  obtain ⟨ho18, H⟩ := H
  obtain ⟨b19, hb, H⟩ := H
  refine xt_getR dX2_init_60 (flX2_42 rfl) ft_3_6 ho18.1 ho18.2 hb ?_
  obtain ⟨ho20, H⟩ := H
  refine xt_callV (h2 := h) (as := []) (st := [.ref x0]) dX2_init_63 (mlX2_46 rfl) rfl ho20.1 ⟨by rw [ho20.2]; rfl, by rw [ho20.2]; decide⟩ (by first | decide | (simp [Value.category]; done)) (Nat.le_refl _) H (fun r M21 HH hE => ?_)
  obtain ⟨r22, hr, H⟩ := HH hE
  subst hr
  have ho3 := ok_E ho3 hE
  have ho18 := ok_E ho18 hE
  show T _ _ _ _ [.int r22, .ref x0] _ _
  obtain ⟨hn, hy, H⟩ := H
  obtain ⟨M23, eM23⟩ : ∃ z, z = nwA M21 21 ((r22 : Int32).toNatClampNeg) := ⟨_, rfl⟩
  obtain ⟨q24, eq24⟩ : ∃ z, z = mN M21 := ⟨_, rfl⟩
  have H := H _ _ eq24 eM23
  refine xt_newI dX2_init_66 ac_I hn rfl hy ?_
  have ho3 : ok M23 x0 4 := by rw [eM23]; exact ok_nwA ho3
  have ho18 : ok M23 x1 3 := by rw [eM23]; exact ok_nwA ho18
  rw [← eM23, ← eq24]
  obtain ⟨M25, eM25⟩ : ∃ z, z = wR M23 x0 8 (some q24) := ⟨_, rfl⟩
  have H := H _ eM25
  refine xt_putR dX2_init_68 (flX2_52 rfl) ft_4_8 rfl ho3.1 ho3.2 ?_
  have ho3 : ok M25 x0 4 := by rw [eM25]; exact ho3
  have ho18 : ok M25 x1 3 := by rw [eM25]; exact ho18
  rw [← eM25]
  refine xt_iconst (v := 0) dX2_init_71 (by decide) ?_
  refine xt_istore_n (lv' := [(3, .int 0), (0, .ref x0), (1, .ref x1), (2, .int x2)]) dX2_init_72 rfl (by decide) rfl ?_
  exact xt_sub (lv' := [(0, .ref x0), (1, .ref x1), (3, .int 0)]) [1, 2, 0] rfl H
theorem KX2_init {h : Nat} {x0 : Nat} {x1 : Nat} {x2 : Int32} {M : Mem} {Q : Option Value → Mem → Prop} (H : DX2_init_0 h x0 x1 x2 M Q) : E (h + 1) mdX2_init [.ref x0, .ref x1, .int x2] M Q := E.of (by decide) (Nat.le_of_ble_eq_true rfl) (fun _ _ _ => trivial) (VX2_init_0 H)
def DJ6_bitCount_0f7a4_0 (h : Nat) (x0 : Int32) (M : Mem) (Q : Option Value → Mem → Prop) : Prop :=
  Q (some (.int ((((((((x0 - ((((x0 : Int32).toUInt32 >>> ((1 : Int32).toUInt32 &&& Int32.toUInt32 31)).toInt32) &&& 1431655765)) &&& 858993459) + ((((x0 - ((((x0 : Int32).toUInt32 >>> ((1 : Int32).toUInt32 &&& Int32.toUInt32 31)).toInt32) &&& 1431655765) : Int32).toUInt32 >>> ((2 : Int32).toUInt32 &&& Int32.toUInt32 31)).toInt32) &&& 858993459)) + (((((x0 - ((((x0 : Int32).toUInt32 >>> ((1 : Int32).toUInt32 &&& Int32.toUInt32 31)).toInt32) &&& 1431655765)) &&& 858993459) + ((((x0 - ((((x0 : Int32).toUInt32 >>> ((1 : Int32).toUInt32 &&& Int32.toUInt32 31)).toInt32) &&& 1431655765) : Int32).toUInt32 >>> ((2 : Int32).toUInt32 &&& Int32.toUInt32 31)).toInt32) &&& 858993459) : Int32).toUInt32 >>> ((4 : Int32).toUInt32 &&& Int32.toUInt32 31)).toInt32)) &&& 252645135) + (((((((x0 - ((((x0 : Int32).toUInt32 >>> ((1 : Int32).toUInt32 &&& Int32.toUInt32 31)).toInt32) &&& 1431655765)) &&& 858993459) + ((((x0 - ((((x0 : Int32).toUInt32 >>> ((1 : Int32).toUInt32 &&& Int32.toUInt32 31)).toInt32) &&& 1431655765) : Int32).toUInt32 >>> ((2 : Int32).toUInt32 &&& Int32.toUInt32 31)).toInt32) &&& 858993459)) + (((((x0 - ((((x0 : Int32).toUInt32 >>> ((1 : Int32).toUInt32 &&& Int32.toUInt32 31)).toInt32) &&& 1431655765)) &&& 858993459) + ((((x0 - ((((x0 : Int32).toUInt32 >>> ((1 : Int32).toUInt32 &&& Int32.toUInt32 31)).toInt32) &&& 1431655765) : Int32).toUInt32 >>> ((2 : Int32).toUInt32 &&& Int32.toUInt32 31)).toInt32) &&& 858993459) : Int32).toUInt32 >>> ((4 : Int32).toUInt32 &&& Int32.toUInt32 31)).toInt32)) &&& 252645135 : Int32).toUInt32 >>> ((8 : Int32).toUInt32 &&& Int32.toUInt32 31)).toInt32)) + ((((((((x0 - ((((x0 : Int32).toUInt32 >>> ((1 : Int32).toUInt32 &&& Int32.toUInt32 31)).toInt32) &&& 1431655765)) &&& 858993459) + ((((x0 - ((((x0 : Int32).toUInt32 >>> ((1 : Int32).toUInt32 &&& Int32.toUInt32 31)).toInt32) &&& 1431655765) : Int32).toUInt32 >>> ((2 : Int32).toUInt32 &&& Int32.toUInt32 31)).toInt32) &&& 858993459)) + (((((x0 - ((((x0 : Int32).toUInt32 >>> ((1 : Int32).toUInt32 &&& Int32.toUInt32 31)).toInt32) &&& 1431655765)) &&& 858993459) + ((((x0 - ((((x0 : Int32).toUInt32 >>> ((1 : Int32).toUInt32 &&& Int32.toUInt32 31)).toInt32) &&& 1431655765) : Int32).toUInt32 >>> ((2 : Int32).toUInt32 &&& Int32.toUInt32 31)).toInt32) &&& 858993459) : Int32).toUInt32 >>> ((4 : Int32).toUInt32 &&& Int32.toUInt32 31)).toInt32)) &&& 252645135) + (((((((x0 - ((((x0 : Int32).toUInt32 >>> ((1 : Int32).toUInt32 &&& Int32.toUInt32 31)).toInt32) &&& 1431655765)) &&& 858993459) + ((((x0 - ((((x0 : Int32).toUInt32 >>> ((1 : Int32).toUInt32 &&& Int32.toUInt32 31)).toInt32) &&& 1431655765) : Int32).toUInt32 >>> ((2 : Int32).toUInt32 &&& Int32.toUInt32 31)).toInt32) &&& 858993459)) + (((((x0 - ((((x0 : Int32).toUInt32 >>> ((1 : Int32).toUInt32 &&& Int32.toUInt32 31)).toInt32) &&& 1431655765)) &&& 858993459) + ((((x0 - ((((x0 : Int32).toUInt32 >>> ((1 : Int32).toUInt32 &&& Int32.toUInt32 31)).toInt32) &&& 1431655765) : Int32).toUInt32 >>> ((2 : Int32).toUInt32 &&& Int32.toUInt32 31)).toInt32) &&& 858993459) : Int32).toUInt32 >>> ((4 : Int32).toUInt32 &&& Int32.toUInt32 31)).toInt32)) &&& 252645135 : Int32).toUInt32 >>> ((8 : Int32).toUInt32 &&& Int32.toUInt32 31)).toInt32) : Int32).toUInt32 >>> ((16 : Int32).toUInt32 &&& Int32.toUInt32 31)).toInt32)) &&& 63))) M
set_option maxRecDepth 20000 in
set_option maxHeartbeats 2000000 in
theorem VJ6_bitCount_0f7a4_0 {h : Nat} {x0 : Int32} {M : Mem} {Q : Option Value → Mem → Prop} (H : DJ6_bitCount_0f7a4_0 h x0 M Q) : T (h + 1) mdJ6_bitCount_0f7a4 0 [(0, .int x0)] [] M Q := by
  unfold DJ6_bitCount_0f7a4_0 at H
  refine xt_iload_n (j := 0) dJ6_bitCount_0f7a4_0 rfl rfl ?_
  refine xt_iload_n (j := 0) dJ6_bitCount_0f7a4_1 rfl rfl ?_
  refine xt_iconst (v := 1) dJ6_bitCount_0f7a4_2 (by decide) ?_
  refine xt_iushr dJ6_bitCount_0f7a4_3 ?_
  refine xt_ldcw (v := 1431655765) dJ6_bitCount_0f7a4_4 (ctJ6_265 rfl) ?_
  refine xt_iand dJ6_bitCount_0f7a4_7 ?_
  refine xt_isub dJ6_bitCount_0f7a4_8 ?_
  refine xt_istore_n (lv' := [(0, .int (x0 - ((((x0 : Int32).toUInt32 >>> ((1 : Int32).toUInt32 &&& Int32.toUInt32 31)).toInt32) &&& 1431655765)))]) dJ6_bitCount_0f7a4_9 rfl (by decide) rfl ?_
  refine xt_iload_n (j := 0) dJ6_bitCount_0f7a4_10 rfl rfl ?_
  refine xt_ldcw (v := 858993459) dJ6_bitCount_0f7a4_11 (ctJ6_266 rfl) ?_
  refine xt_iand dJ6_bitCount_0f7a4_14 ?_
  refine xt_iload_n (j := 0) dJ6_bitCount_0f7a4_15 rfl rfl ?_
  refine xt_iconst (v := 2) dJ6_bitCount_0f7a4_16 (by decide) ?_
  refine xt_iushr dJ6_bitCount_0f7a4_17 ?_
  refine xt_ldcw (v := 858993459) dJ6_bitCount_0f7a4_18 (ctJ6_266 rfl) ?_
  refine xt_iand dJ6_bitCount_0f7a4_21 ?_
  refine xt_iadd dJ6_bitCount_0f7a4_22 ?_
  refine xt_istore_n (lv' := [(0, .int (((x0 - ((((x0 : Int32).toUInt32 >>> ((1 : Int32).toUInt32 &&& Int32.toUInt32 31)).toInt32) &&& 1431655765)) &&& 858993459) + ((((x0 - ((((x0 : Int32).toUInt32 >>> ((1 : Int32).toUInt32 &&& Int32.toUInt32 31)).toInt32) &&& 1431655765) : Int32).toUInt32 >>> ((2 : Int32).toUInt32 &&& Int32.toUInt32 31)).toInt32) &&& 858993459)))]) dJ6_bitCount_0f7a4_23 rfl (by decide) rfl ?_
  refine xt_iload_n (j := 0) dJ6_bitCount_0f7a4_24 rfl rfl ?_
  refine xt_iload_n (j := 0) dJ6_bitCount_0f7a4_25 rfl rfl ?_
  refine xt_iconst (v := 4) dJ6_bitCount_0f7a4_26 (by decide) ?_
  refine xt_iushr dJ6_bitCount_0f7a4_27 ?_
  refine xt_iadd dJ6_bitCount_0f7a4_28 ?_
  refine xt_ldcw (v := 252645135) dJ6_bitCount_0f7a4_29 (ctJ6_267 rfl) ?_
  refine xt_iand dJ6_bitCount_0f7a4_32 ?_
  refine xt_istore_n (lv' := [(0, .int (((((x0 - ((((x0 : Int32).toUInt32 >>> ((1 : Int32).toUInt32 &&& Int32.toUInt32 31)).toInt32) &&& 1431655765)) &&& 858993459) + ((((x0 - ((((x0 : Int32).toUInt32 >>> ((1 : Int32).toUInt32 &&& Int32.toUInt32 31)).toInt32) &&& 1431655765) : Int32).toUInt32 >>> ((2 : Int32).toUInt32 &&& Int32.toUInt32 31)).toInt32) &&& 858993459)) + (((((x0 - ((((x0 : Int32).toUInt32 >>> ((1 : Int32).toUInt32 &&& Int32.toUInt32 31)).toInt32) &&& 1431655765)) &&& 858993459) + ((((x0 - ((((x0 : Int32).toUInt32 >>> ((1 : Int32).toUInt32 &&& Int32.toUInt32 31)).toInt32) &&& 1431655765) : Int32).toUInt32 >>> ((2 : Int32).toUInt32 &&& Int32.toUInt32 31)).toInt32) &&& 858993459) : Int32).toUInt32 >>> ((4 : Int32).toUInt32 &&& Int32.toUInt32 31)).toInt32)) &&& 252645135))]) dJ6_bitCount_0f7a4_33 rfl (by decide) rfl ?_
  refine xt_iload_n (j := 0) dJ6_bitCount_0f7a4_34 rfl rfl ?_
  refine xt_iload_n (j := 0) dJ6_bitCount_0f7a4_35 rfl rfl ?_
  refine xt_bipush (v := 8) dJ6_bitCount_0f7a4_36 (by decide) ?_
  refine xt_iushr dJ6_bitCount_0f7a4_38 ?_
  refine xt_iadd dJ6_bitCount_0f7a4_39 ?_
  refine xt_istore_n (lv' := [(0, .int ((((((x0 - ((((x0 : Int32).toUInt32 >>> ((1 : Int32).toUInt32 &&& Int32.toUInt32 31)).toInt32) &&& 1431655765)) &&& 858993459) + ((((x0 - ((((x0 : Int32).toUInt32 >>> ((1 : Int32).toUInt32 &&& Int32.toUInt32 31)).toInt32) &&& 1431655765) : Int32).toUInt32 >>> ((2 : Int32).toUInt32 &&& Int32.toUInt32 31)).toInt32) &&& 858993459)) + (((((x0 - ((((x0 : Int32).toUInt32 >>> ((1 : Int32).toUInt32 &&& Int32.toUInt32 31)).toInt32) &&& 1431655765)) &&& 858993459) + ((((x0 - ((((x0 : Int32).toUInt32 >>> ((1 : Int32).toUInt32 &&& Int32.toUInt32 31)).toInt32) &&& 1431655765) : Int32).toUInt32 >>> ((2 : Int32).toUInt32 &&& Int32.toUInt32 31)).toInt32) &&& 858993459) : Int32).toUInt32 >>> ((4 : Int32).toUInt32 &&& Int32.toUInt32 31)).toInt32)) &&& 252645135) + (((((((x0 - ((((x0 : Int32).toUInt32 >>> ((1 : Int32).toUInt32 &&& Int32.toUInt32 31)).toInt32) &&& 1431655765)) &&& 858993459) + ((((x0 - ((((x0 : Int32).toUInt32 >>> ((1 : Int32).toUInt32 &&& Int32.toUInt32 31)).toInt32) &&& 1431655765) : Int32).toUInt32 >>> ((2 : Int32).toUInt32 &&& Int32.toUInt32 31)).toInt32) &&& 858993459)) + (((((x0 - ((((x0 : Int32).toUInt32 >>> ((1 : Int32).toUInt32 &&& Int32.toUInt32 31)).toInt32) &&& 1431655765)) &&& 858993459) + ((((x0 - ((((x0 : Int32).toUInt32 >>> ((1 : Int32).toUInt32 &&& Int32.toUInt32 31)).toInt32) &&& 1431655765) : Int32).toUInt32 >>> ((2 : Int32).toUInt32 &&& Int32.toUInt32 31)).toInt32) &&& 858993459) : Int32).toUInt32 >>> ((4 : Int32).toUInt32 &&& Int32.toUInt32 31)).toInt32)) &&& 252645135 : Int32).toUInt32 >>> ((8 : Int32).toUInt32 &&& Int32.toUInt32 31)).toInt32)))]) dJ6_bitCount_0f7a4_40 rfl (by decide) rfl ?_
  refine xt_iload_n (j := 0) dJ6_bitCount_0f7a4_41 rfl rfl ?_
  refine xt_iload_n (j := 0) dJ6_bitCount_0f7a4_42 rfl rfl ?_
  refine xt_bipush (v := 16) dJ6_bitCount_0f7a4_43 (by decide) ?_
  refine xt_iushr dJ6_bitCount_0f7a4_45 ?_
  refine xt_iadd dJ6_bitCount_0f7a4_46 ?_
  refine xt_istore_n (lv' := [(0, .int (((((((x0 - ((((x0 : Int32).toUInt32 >>> ((1 : Int32).toUInt32 &&& Int32.toUInt32 31)).toInt32) &&& 1431655765)) &&& 858993459) + ((((x0 - ((((x0 : Int32).toUInt32 >>> ((1 : Int32).toUInt32 &&& Int32.toUInt32 31)).toInt32) &&& 1431655765) : Int32).toUInt32 >>> ((2 : Int32).toUInt32 &&& Int32.toUInt32 31)).toInt32) &&& 858993459)) + (((((x0 - ((((x0 : Int32).toUInt32 >>> ((1 : Int32).toUInt32 &&& Int32.toUInt32 31)).toInt32) &&& 1431655765)) &&& 858993459) + ((((x0 - ((((x0 : Int32).toUInt32 >>> ((1 : Int32).toUInt32 &&& Int32.toUInt32 31)).toInt32) &&& 1431655765) : Int32).toUInt32 >>> ((2 : Int32).toUInt32 &&& Int32.toUInt32 31)).toInt32) &&& 858993459) : Int32).toUInt32 >>> ((4 : Int32).toUInt32 &&& Int32.toUInt32 31)).toInt32)) &&& 252645135) + (((((((x0 - ((((x0 : Int32).toUInt32 >>> ((1 : Int32).toUInt32 &&& Int32.toUInt32 31)).toInt32) &&& 1431655765)) &&& 858993459) + ((((x0 - ((((x0 : Int32).toUInt32 >>> ((1 : Int32).toUInt32 &&& Int32.toUInt32 31)).toInt32) &&& 1431655765) : Int32).toUInt32 >>> ((2 : Int32).toUInt32 &&& Int32.toUInt32 31)).toInt32) &&& 858993459)) + (((((x0 - ((((x0 : Int32).toUInt32 >>> ((1 : Int32).toUInt32 &&& Int32.toUInt32 31)).toInt32) &&& 1431655765)) &&& 858993459) + ((((x0 - ((((x0 : Int32).toUInt32 >>> ((1 : Int32).toUInt32 &&& Int32.toUInt32 31)).toInt32) &&& 1431655765) : Int32).toUInt32 >>> ((2 : Int32).toUInt32 &&& Int32.toUInt32 31)).toInt32) &&& 858993459) : Int32).toUInt32 >>> ((4 : Int32).toUInt32 &&& Int32.toUInt32 31)).toInt32)) &&& 252645135 : Int32).toUInt32 >>> ((8 : Int32).toUInt32 &&& Int32.toUInt32 31)).toInt32)) + ((((((((x0 - ((((x0 : Int32).toUInt32 >>> ((1 : Int32).toUInt32 &&& Int32.toUInt32 31)).toInt32) &&& 1431655765)) &&& 858993459) + ((((x0 - ((((x0 : Int32).toUInt32 >>> ((1 : Int32).toUInt32 &&& Int32.toUInt32 31)).toInt32) &&& 1431655765) : Int32).toUInt32 >>> ((2 : Int32).toUInt32 &&& Int32.toUInt32 31)).toInt32) &&& 858993459)) + (((((x0 - ((((x0 : Int32).toUInt32 >>> ((1 : Int32).toUInt32 &&& Int32.toUInt32 31)).toInt32) &&& 1431655765)) &&& 858993459) + ((((x0 - ((((x0 : Int32).toUInt32 >>> ((1 : Int32).toUInt32 &&& Int32.toUInt32 31)).toInt32) &&& 1431655765) : Int32).toUInt32 >>> ((2 : Int32).toUInt32 &&& Int32.toUInt32 31)).toInt32) &&& 858993459) : Int32).toUInt32 >>> ((4 : Int32).toUInt32 &&& Int32.toUInt32 31)).toInt32)) &&& 252645135) + (((((((x0 - ((((x0 : Int32).toUInt32 >>> ((1 : Int32).toUInt32 &&& Int32.toUInt32 31)).toInt32) &&& 1431655765)) &&& 858993459) + ((((x0 - ((((x0 : Int32).toUInt32 >>> ((1 : Int32).toUInt32 &&& Int32.toUInt32 31)).toInt32) &&& 1431655765) : Int32).toUInt32 >>> ((2 : Int32).toUInt32 &&& Int32.toUInt32 31)).toInt32) &&& 858993459)) + (((((x0 - ((((x0 : Int32).toUInt32 >>> ((1 : Int32).toUInt32 &&& Int32.toUInt32 31)).toInt32) &&& 1431655765)) &&& 858993459) + ((((x0 - ((((x0 : Int32).toUInt32 >>> ((1 : Int32).toUInt32 &&& Int32.toUInt32 31)).toInt32) &&& 1431655765) : Int32).toUInt32 >>> ((2 : Int32).toUInt32 &&& Int32.toUInt32 31)).toInt32) &&& 858993459) : Int32).toUInt32 >>> ((4 : Int32).toUInt32 &&& Int32.toUInt32 31)).toInt32)) &&& 252645135 : Int32).toUInt32 >>> ((8 : Int32).toUInt32 &&& Int32.toUInt32 31)).toInt32) : Int32).toUInt32 >>> ((16 : Int32).toUInt32 &&& Int32.toUInt32 31)).toInt32)))]) dJ6_bitCount_0f7a4_47 rfl (by decide) rfl ?_
  refine xt_iload_n (j := 0) dJ6_bitCount_0f7a4_48 rfl rfl ?_
  refine xt_bipush (v := 63) dJ6_bitCount_0f7a4_49 (by decide) ?_
  refine xt_iand dJ6_bitCount_0f7a4_51 ?_
  exact xt_ireturn dJ6_bitCount_0f7a4_52 rfl H
theorem KJ6_bitCount_0f7a4 {h : Nat} {x0 : Int32} {M : Mem} {Q : Option Value → Mem → Prop} (H : DJ6_bitCount_0f7a4_0 h x0 M Q) : E (h + 1) mdJ6_bitCount_0f7a4 [.int x0] M Q := E.of (by decide) (Nat.le_of_ble_eq_true rfl) (fun _ _ _ => trivial) (VJ6_bitCount_0f7a4_0 H)
