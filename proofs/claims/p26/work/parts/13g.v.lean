def DX11_codeOf_81 (h : Nat) (x0 : Nat) (x3 : Int32) (x4 : Int32) (s0 : Int32) (s1 : Int32) (M : Mem) (Q : Option Value → Mem → Prop) : Prop :=
  ok M x0 13 ∧ ∃ b2 : Nat, mR M x0 68 = some b2 ∧ ok M b2 21 ∧ vp_in x3 (mL M b2) ∧ T (h + 1) mdX11_codeOf 41 [(0, .ref x0), (2, .int (s0 + s1)), (3, .int (mAI M b2 (x3 : Int32).toNatClampNeg)), (4, .int x4)] [] M Q
set_option maxRecDepth 20000 in
set_option maxHeartbeats 2000000 in
theorem VX11_codeOf_81 {h : Nat} {x0 : Nat} {x3 : Int32} {x4 : Int32} {s0 : Int32} {s1 : Int32} {M : Mem} {Q : Option Value → Mem → Prop} (H : DX11_codeOf_81 h x0 x3 x4 s0 s1 M Q) : T (h + 1) mdX11_codeOf 81 [(0, .ref x0), (3, .int x3), (4, .int x4)] [.int s1, .int s0] M Q := by
  unfold DX11_codeOf_81 at H
  refine xt_iadd dX11_codeOf_81 ?_
  refine xt_istore_n (lv' := [(2, .int (s0 + s1)), (0, .ref x0), (3, .int x3), (4, .int x4)]) dX11_codeOf_82 rfl (by decide) rfl ?_
  refine xt_aload_n (j := 1) dX11_codeOf_83 rfl rfl ?_
  obtain ⟨ho1, H⟩ := H
  obtain ⟨b2, hb, H⟩ := H
  refine xt_getR dX11_codeOf_84 (flX11_180 rfl) ft_13_68 ho1.1 ho1.2 hb ?_
  refine xt_iload_n (j := 2) dX11_codeOf_87 rfl rfl ?_
  obtain ⟨ho3, H⟩ := H
  obtain ⟨hi, H⟩ := H
  refine xt_iald dX11_codeOf_88 ho3.1 ho3.2 hi ?_
  refine xt_istore_n (lv' := [(3, .int (mAI M b2 (x3 : Int32).toNatClampNeg)), (2, .int (s0 + s1)), (0, .ref x0), (4, .int x4)]) dX11_codeOf_89 rfl (by decide) rfl ?_
  refine xt_goto (tgt := 41) dX11_codeOf_90 (by decide) ?_
  exact xt_sub (lv' := [(0, .ref x0), (2, .int (s0 + s1)), (3, .int (mAI M b2 (x3 : Int32).toNatClampNeg)), (4, .int x4)]) [2, 1, 0, 3] rfl H
def DX11_codeOf_64 (h : Nat) (x0 : Nat) (x2 : Int32) (x3 : Int32) (x4 : Int32) (M : Mem) (Q : Option Value → Mem → Prop) : Prop :=
  ok M x0 13 ∧ ∃ b2 : Nat, mR M x0 62 = some b2 ∧ ok M b2 21 ∧ vp_in x3 (mL M b2) ∧ (¬ (mAI M b2 (x3 : Int32).toNatClampNeg) = 10 → DX11_codeOf_81 h x0 x3 x4 x2 0 M Q) ∧
  ((mAI M b2 (x3 : Int32).toNatClampNeg) = 10 → DX11_codeOf_81 h x0 x3 x4 x2 1 M Q)
set_option maxRecDepth 20000 in
set_option maxHeartbeats 2000000 in
theorem VX11_codeOf_64 {h : Nat} {x0 : Nat} {x2 : Int32} {x3 : Int32} {x4 : Int32} {M : Mem} {Q : Option Value → Mem → Prop} (H : DX11_codeOf_64 h x0 x2 x3 x4 M Q) : T (h + 1) mdX11_codeOf 64 [(0, .ref x0), (2, .int x2), (3, .int x3), (4, .int x4)] [] M Q := by
  unfold DX11_codeOf_64 at H
  refine xt_iload_n (j := 1) dX11_codeOf_64 rfl rfl ?_
  refine xt_aload_n (j := 0) dX11_codeOf_65 rfl rfl ?_
  obtain ⟨ho1, H⟩ := H
  obtain ⟨b2, hb, H⟩ := H
  refine xt_getR dX11_codeOf_66 (flX11_162 rfl) ft_13_62 ho1.1 ho1.2 hb ?_
  refine xt_iload_n (j := 2) dX11_codeOf_69 rfl rfl ?_
  obtain ⟨ho3, H⟩ := H
  obtain ⟨hi, H⟩ := H
  refine xt_iald dX11_codeOf_70 ho3.1 ho3.2 hi ?_
  refine xt_bipush (v := 10) dX11_codeOf_71 (by decide) ?_
  refine xt_icmp_ne (tgt := 80) dX11_codeOf_73 (by decide) (fun hc => ?_) (fun hc => ?_)
  · have H := H.1 hc
    refine xt_iconst (v := 0) dX11_codeOf_80 (by decide) ?_
    exact xt_sub [0, 2, 3] rfl (VX11_codeOf_81 H)
  · have H := H.2 hc
    refine xt_iconst (v := 1) dX11_codeOf_76 (by decide) ?_
    refine xt_goto (tgt := 81) dX11_codeOf_77 (by decide) ?_
    exact xt_sub [0, 2, 3] rfl (VX11_codeOf_81 H)
def DX11_codeOf_93 (h : Nat) (x2 : Int32) (M : Mem) (Q : Option Value → Mem → Prop) : Prop :=
  Q (some (.int x2)) M
set_option maxRecDepth 20000 in
set_option maxHeartbeats 2000000 in
theorem VX11_codeOf_93 {h : Nat} {x2 : Int32} {M : Mem} {Q : Option Value → Mem → Prop} (H : DX11_codeOf_93 h x2 M Q) : T (h + 1) mdX11_codeOf 93 [(2, .int x2)] [] M Q := by
  unfold DX11_codeOf_93 at H
  refine xt_iload_n (j := 0) dX11_codeOf_93 rfl rfl ?_
  exact xt_ireturn dX11_codeOf_94 rfl H
def DX11_codeOf_41 (h : Nat) (x0 : Nat) (x2 : Int32) (x3 : Int32) (x4 : Int32) (M : Mem) (Q : Option Value → Mem → Prop) : Prop :=
  ok M x0 13 ∧ ∃ b2 : Nat, mR M x0 62 = some b2 ∧ ok M b2 21 ∧ vp_in x3 (mL M b2) ∧ (¬ (mAI M b2 (x3 : Int32).toNatClampNeg) = 10 → DX11_codeOf_64 h x0 x2 x3 x4 M Q) ∧
  ((mAI M b2 (x3 : Int32).toNatClampNeg) = 10 → (x4 = (-1) → DX11_codeOf_93 h x2 M Q) ∧
  (¬ (x4 = (-1)) → (x3 = x4 → DX11_codeOf_93 h x2 M Q) ∧
  (¬ (x3 = x4) → DX11_codeOf_64 h x0 x2 x3 x4 M Q)))
set_option maxRecDepth 20000 in
set_option maxHeartbeats 2000000 in
theorem VX11_codeOf_41 {h : Nat} {x0 : Nat} {x2 : Int32} {x3 : Int32} {x4 : Int32} {M : Mem} {Q : Option Value → Mem → Prop} (H : DX11_codeOf_41 h x0 x2 x3 x4 M Q) : T (h + 1) mdX11_codeOf 41 [(0, .ref x0), (2, .int x2), (3, .int x3), (4, .int x4)] [] M Q := by
  unfold DX11_codeOf_41 at H
  refine xt_aload_n (j := 0) dX11_codeOf_41 rfl rfl ?_
  obtain ⟨ho1, H⟩ := H
  obtain ⟨b2, hb, H⟩ := H
  refine xt_getR dX11_codeOf_42 (flX11_162 rfl) ft_13_62 ho1.1 ho1.2 hb ?_
  refine xt_iload_n (j := 2) dX11_codeOf_45 rfl rfl ?_
  obtain ⟨ho3, H⟩ := H
  obtain ⟨hi, H⟩ := H
  refine xt_iald dX11_codeOf_46 ho3.1 ho3.2 hi ?_
  refine xt_bipush (v := 10) dX11_codeOf_47 (by decide) ?_
  refine xt_icmp_ne (tgt := 64) dX11_codeOf_49 (by decide) (fun hc => ?_) (fun hc => ?_)
  · have H := H.1 hc
    exact xt_sub [0, 1, 2, 3] rfl (VX11_codeOf_64 H)
  · have H := H.2 hc
    refine xt_iload (j := 3) dX11_codeOf_52 rfl ?_
    refine xt_iconst (v := -1) dX11_codeOf_54 (by decide) ?_
    refine xt_icmp_eq (tgt := 93) dX11_codeOf_55 (by decide) (fun hc => ?_) (fun hc => ?_)
    · have H := H.1 hc
      exact xt_sub [1] rfl (VX11_codeOf_93 H)
    · have H := H.2 hc
      refine xt_iload_n (j := 2) dX11_codeOf_58 rfl rfl ?_
      refine xt_iload (j := 3) dX11_codeOf_59 rfl ?_
      refine xt_icmp_eq (tgt := 93) dX11_codeOf_61 (by decide) (fun hc => ?_) (fun hc => ?_)
      · have H := H.1 hc
        exact xt_sub [1] rfl (VX11_codeOf_93 H)
      · have H := H.2 hc
        exact xt_sub [0, 1, 2, 3] rfl (VX11_codeOf_64 H)
def DX11_codeOf_39 (h : Nat) (x0 : Nat) (x2 : Int32) (x3 : Int32) (s0 : Int32) (M : Mem) (Q : Option Value → Mem → Prop) : Prop :=
  T (h + 1) mdX11_codeOf 41 [(0, .ref x0), (2, .int x2), (3, .int x3), (4, .int s0)] [] M Q
set_option maxRecDepth 20000 in
set_option maxHeartbeats 2000000 in
theorem VX11_codeOf_39 {h : Nat} {x0 : Nat} {x2 : Int32} {x3 : Int32} {s0 : Int32} {M : Mem} {Q : Option Value → Mem → Prop} (H : DX11_codeOf_39 h x0 x2 x3 s0 M Q) : T (h + 1) mdX11_codeOf 39 [(0, .ref x0), (2, .int x2), (3, .int x3)] [.int s0] M Q := by
  unfold DX11_codeOf_39 at H
  refine xt_istore (lv' := [(4, .int s0), (0, .ref x0), (2, .int x2), (3, .int x3)]) dX11_codeOf_39 (by decide) rfl ?_
  exact xt_sub (lv' := [(0, .ref x0), (2, .int x2), (3, .int x3), (4, .int s0)]) [1, 2, 3, 0] rfl H
def DX11_codeOf_0 (h : Nat) (x0 : Nat) (x1 : Int32) (M : Mem) (Q : Option Value → Mem → Prop) : Prop :=
  ok M x0 13 ∧ ∃ b2 : Nat, mR M x0 68 = some b2 ∧ ok M b2 21 ∧ vp_in x1 (mL M b2) ∧ ∃ b4 : Nat, mR M x0 63 = some b4 ∧ ok M b4 21 ∧ vp_in x1 (mL M b4) ∧ (¬ (mAI M b4 (x1 : Int32).toNatClampNeg) = (-1) → ∃ b6 : Nat, mR M x0 72 = some b6 ∧ ∃ b7 : Nat, mR M x0 40 = some b7 ∧ ∃ b8 : Nat, mR M x0 63 = some b8 ∧ ok M b8 21 ∧ vp_in x1 (mL M b8) ∧ ok M b7 21 ∧ vp_in (mAI M b8 (x1 : Int32).toNatClampNeg) (mL M b7) ∧ ok M b6 21 ∧ vp_in (mAI M b7 (mAI M b8 (x1 : Int32).toNatClampNeg : Int32).toNatClampNeg) (mL M b6) ∧ DX11_codeOf_39 h x0 2 (mAI M b2 (x1 : Int32).toNatClampNeg) (mAI M b6 (mAI M b7 (mAI M b8 (x1 : Int32).toNatClampNeg : Int32).toNatClampNeg : Int32).toNatClampNeg) M Q) ∧
  ((mAI M b4 (x1 : Int32).toNatClampNeg) = (-1) → DX11_codeOf_39 h x0 2 (mAI M b2 (x1 : Int32).toNatClampNeg) (-1) M Q)
set_option maxRecDepth 20000 in
set_option maxHeartbeats 2000000 in
theorem VX11_codeOf_0 {h : Nat} {x0 : Nat} {x1 : Int32} {M : Mem} {Q : Option Value → Mem → Prop} (H : DX11_codeOf_0 h x0 x1 M Q) : T (h + 1) mdX11_codeOf 0 [(0, .ref x0), (1, .int x1)] [] M Q := by
  unfold DX11_codeOf_0 at H
  refine xt_iconst (v := 2) dX11_codeOf_0 (by decide) ?_
  refine xt_istore_n (lv' := [(2, .int 2), (0, .ref x0), (1, .int x1)]) dX11_codeOf_1 rfl (by decide) rfl ?_
  refine xt_aload_n (j := 1) dX11_codeOf_2 rfl rfl ?_
  obtain ⟨ho1, H⟩ := H
  obtain ⟨b2, hb, H⟩ := H
  refine xt_getR dX11_codeOf_3 (flX11_180 rfl) ft_13_68 ho1.1 ho1.2 hb ?_
  refine xt_iload_n (j := 2) dX11_codeOf_6 rfl rfl ?_
  obtain ⟨ho3, H⟩ := H
  obtain ⟨hi, H⟩ := H
  refine xt_iald dX11_codeOf_7 ho3.1 ho3.2 hi ?_
  refine xt_istore_n (lv' := [(3, .int (mAI M b2 (x1 : Int32).toNatClampNeg)), (2, .int 2), (0, .ref x0), (1, .int x1)]) dX11_codeOf_8 rfl (by decide) rfl ?_
  refine xt_aload_n (j := 2) dX11_codeOf_9 rfl rfl ?_
  obtain ⟨b4, hb, H⟩ := H
  refine xt_getR dX11_codeOf_10 (flX11_165 rfl) ft_13_63 ho1.1 ho1.2 hb ?_
  refine xt_iload_n (j := 3) dX11_codeOf_13 rfl rfl ?_
  obtain ⟨ho5, H⟩ := H
  obtain ⟨hi, H⟩ := H
  refine xt_iald dX11_codeOf_14 ho5.1 ho5.2 hi ?_
  refine xt_iconst (v := -1) dX11_codeOf_15 (by decide) ?_
  refine xt_icmp_ne (tgt := 23) dX11_codeOf_16 (by decide) (fun hc => ?_) (fun hc => ?_)
  · have H := H.1 hc
    refine xt_aload_n (j := 2) dX11_codeOf_23 rfl rfl ?_
    obtain ⟨b6, hb, H⟩ := H
    refine xt_getR dX11_codeOf_24 (flX11_192 rfl) ft_13_72 ho1.1 ho1.2 hb ?_
    refine xt_aload_n (j := 2) dX11_codeOf_27 rfl rfl ?_
    obtain ⟨b7, hb, H⟩ := H
    refine xt_getR dX11_codeOf_28 (flX11_102 rfl) ft_13_40 ho1.1 ho1.2 hb ?_
    refine xt_aload_n (j := 2) dX11_codeOf_31 rfl rfl ?_
    obtain ⟨b8, hb, H⟩ := H
    refine xt_getR dX11_codeOf_32 (flX11_165 rfl) ft_13_63 ho1.1 ho1.2 hb ?_
    refine xt_iload_n (j := 3) dX11_codeOf_35 rfl rfl ?_
    obtain ⟨ho9, H⟩ := H
    obtain ⟨hi, H⟩ := H
    refine xt_iald dX11_codeOf_36 ho9.1 ho9.2 hi ?_
    obtain ⟨ho10, H⟩ := H
    obtain ⟨hi, H⟩ := H
    refine xt_iald dX11_codeOf_37 ho10.1 ho10.2 hi ?_
    obtain ⟨ho11, H⟩ := H
    obtain ⟨hi, H⟩ := H
    refine xt_iald dX11_codeOf_38 ho11.1 ho11.2 hi ?_
    exact xt_sub [2, 1, 0] rfl (VX11_codeOf_39 H)
  · have H := H.2 hc
    refine xt_iconst (v := -1) dX11_codeOf_19 (by decide) ?_
    refine xt_goto (tgt := 39) dX11_codeOf_20 (by decide) ?_
    exact xt_sub [2, 1, 0] rfl (VX11_codeOf_39 H)
theorem KX11_codeOf {h : Nat} {x0 : Nat} {x1 : Int32} {M : Mem} {Q : Option Value → Mem → Prop} (H : DX11_codeOf_0 h x0 x1 M Q) : E (h + 1) mdX11_codeOf [.ref x0, .int x1] M Q := E.of (by decide) (Nat.le_of_ble_eq_true rfl) (fun _ _ _ => trivial) (VX11_codeOf_0 H)
def DX11_lowest_22 (h : Nat) (x1 : Int32) (M : Mem) (Q : Option Value → Mem → Prop) : Prop :=
  Q (some (.int x1)) M
set_option maxRecDepth 20000 in
set_option maxHeartbeats 2000000 in
theorem VX11_lowest_22 {h : Nat} {x1 : Int32} {M : Mem} {Q : Option Value → Mem → Prop} (H : DX11_lowest_22 h x1 M Q) : T (h + 1) mdX11_lowest 22 [(1, .int x1)] [] M Q := by
  unfold DX11_lowest_22 at H
  refine xt_iload_n (j := 0) dX11_lowest_22 rfl rfl ?_
  exact xt_ireturn dX11_lowest_23 rfl H
def DX11_lowest_2 (h : Nat) (x0 : Int32) (x1 : Int32) (M : Mem) (Q : Option Value → Mem → Prop) : Prop :=
  (30 ≤ x1 → DX11_lowest_22 h x1 M Q) ∧
  (¬ (30 ≤ x1) → (¬ ((x0 >>> (x1 &&& 31)) &&& 1) = 0 → DX11_lowest_22 h x1 M Q) ∧
  (((x0 >>> (x1 &&& 31)) &&& 1) = 0 → T (h + 1) mdX11_lowest 2 [(0, .int x0), (1, .int (x1 + 1))] [] M Q))
set_option maxRecDepth 20000 in
set_option maxHeartbeats 2000000 in
theorem VX11_lowest_2 {h : Nat} {x0 : Int32} {x1 : Int32} {M : Mem} {Q : Option Value → Mem → Prop} (H : DX11_lowest_2 h x0 x1 M Q) : T (h + 1) mdX11_lowest 2 [(0, .int x0), (1, .int x1)] [] M Q := by
  unfold DX11_lowest_2 at H
  refine xt_iload_n (j := 1) dX11_lowest_2 rfl rfl ?_
  refine xt_bipush (v := 30) dX11_lowest_3 (by decide) ?_
  refine xt_icmp_ge (tgt := 22) dX11_lowest_5 (by decide) (fun hc => ?_) (fun hc => ?_)
  · have H := H.1 hc
    exact xt_sub [1] rfl (VX11_lowest_22 H)
  · have H := H.2 hc
    refine xt_iload_n (j := 0) dX11_lowest_8 rfl rfl ?_
    refine xt_iload_n (j := 1) dX11_lowest_9 rfl rfl ?_
    refine xt_ishr dX11_lowest_10 ?_
    refine xt_iconst (v := 1) dX11_lowest_11 (by decide) ?_
    refine xt_iand dX11_lowest_12 ?_
    refine xt_if_ne (tgt := 22) dX11_lowest_13 (by decide) (fun hc => ?_) (fun hc => ?_)
    · have H := H.1 hc
      exact xt_sub [1] rfl (VX11_lowest_22 H)
    · have H := H.2 hc
      refine xt_iinc (j := 1) (v := x1 + 1) (lv' := [(1, .int (x1 + 1)), (0, .int x0)]) dX11_lowest_16 rfl (by rfl) (by decide) rfl ?_
      refine xt_goto (tgt := 2) dX11_lowest_19 (by decide) ?_
      exact xt_sub (lv' := [(0, .int x0), (1, .int (x1 + 1))]) [1, 0] rfl H
def DX11_lowest_0 (h : Nat) (x0 : Int32) (M : Mem) (Q : Option Value → Mem → Prop) : Prop :=
  T (h + 1) mdX11_lowest 2 [(0, .int x0), (1, .int 0)] [] M Q
set_option maxRecDepth 20000 in
set_option maxHeartbeats 2000000 in
theorem VX11_lowest_0 {h : Nat} {x0 : Int32} {M : Mem} {Q : Option Value → Mem → Prop} (H : DX11_lowest_0 h x0 M Q) : T (h + 1) mdX11_lowest 0 [(0, .int x0)] [] M Q := by
  unfold DX11_lowest_0 at H
  refine xt_iconst (v := 0) dX11_lowest_0 (by decide) ?_
  refine xt_istore_n (lv' := [(1, .int 0), (0, .int x0)]) dX11_lowest_1 rfl (by decide) rfl ?_
  exact xt_sub (lv' := [(0, .int x0), (1, .int 0)]) [1, 0] rfl H
theorem KX11_lowest {h : Nat} {x0 : Int32} {M : Mem} {Q : Option Value → Mem → Prop} (H : DX11_lowest_0 h x0 M Q) : E (h + 1) mdX11_lowest [.int x0] M Q := E.of (by decide) (Nat.le_of_ble_eq_true rfl) (fun _ _ _ => trivial) (VX11_lowest_0 H)
def DX11_codes_106 (h : Nat) (s0 : Int32) (s1 : Int32) (M : Mem) (Q : Option Value → Mem → Prop) : Prop :=
  Q (some (.int (s0 ||| s1))) M
set_option maxRecDepth 20000 in
set_option maxHeartbeats 2000000 in
theorem VX11_codes_106 {h : Nat} {s0 : Int32} {s1 : Int32} {M : Mem} {Q : Option Value → Mem → Prop} (H : DX11_codes_106 h s0 s1 M Q) : T (h + 1) mdX11_codes 106 [] [.int s1, .int s0] M Q := by
  unfold DX11_codes_106 at H
  refine xt_ior dX11_codes_106 ?_
  exact xt_ireturn dX11_codes_107 rfl H
def DX11_codes_135 (h : Nat) (x0 : Nat) (x3 : Int32) (s0 : Int32) (s1 : Int32) (M : Mem) (Q : Option Value → Mem → Prop) : Prop :=
  ok M x0 13 ∧ ∃ b2 : Nat, mR M x0 66 = some b2 ∧ ok M b2 21 ∧ vp_in x3 (mL M b2) ∧ T (h + 1) mdX11_codes 110 [(0, .ref x0), (2, .int (s0 ||| s1)), (3, .int (mAI M b2 (x3 : Int32).toNatClampNeg))] [] M Q
set_option maxRecDepth 20000 in
set_option maxHeartbeats 2000000 in
theorem VX11_codes_135 {h : Nat} {x0 : Nat} {x3 : Int32} {s0 : Int32} {s1 : Int32} {M : Mem} {Q : Option Value → Mem → Prop} (H : DX11_codes_135 h x0 x3 s0 s1 M Q) : T (h + 1) mdX11_codes 135 [(0, .ref x0), (3, .int x3)] [.int s1, .int s0] M Q := by
  unfold DX11_codes_135 at H
  refine xt_ior dX11_codes_135 ?_
  refine xt_istore_n (lv' := [(2, .int (s0 ||| s1)), (0, .ref x0), (3, .int x3)]) dX11_codes_136 rfl (by decide) rfl ?_
  refine xt_aload_n (j := 1) dX11_codes_137 rfl rfl ?_
  obtain ⟨ho1, H⟩ := H
  obtain ⟨b2, hb, H⟩ := H
  refine xt_getR dX11_codes_138 (flX11_174 rfl) ft_13_66 ho1.1 ho1.2 hb ?_
  refine xt_iload_n (j := 2) dX11_codes_141 rfl rfl ?_
  obtain ⟨ho3, H⟩ := H
  obtain ⟨hi, H⟩ := H
  refine xt_iald dX11_codes_142 ho3.1 ho3.2 hi ?_
  refine xt_istore_n (lv' := [(3, .int (mAI M b2 (x3 : Int32).toNatClampNeg)), (2, .int (s0 ||| s1)), (0, .ref x0)]) dX11_codes_143 rfl (by decide) rfl ?_
  refine xt_goto (tgt := 110) dX11_codes_144 (by decide) ?_
  exact xt_sub (lv' := [(0, .ref x0), (2, .int (s0 ||| s1)), (3, .int (mAI M b2 (x3 : Int32).toNatClampNeg))]) [2, 1, 0] rfl H
def DX11_codes_110 (h : Nat) (x0 : Nat) (x2 : Int32) (x3 : Int32) (M : Mem) (Q : Option Value → Mem → Prop) : Prop :=
  (x3 = (-1) → Q (some (.int x2)) M) ∧
  (¬ (x3 = (-1)) → ((x2 &&& 1) = 0 → DX11_codes_135 h x0 x3 (x2 &&& (-2)) 0 M Q) ∧
  (¬ ((x2 &&& 1) = 0) → ok M x0 13 ∧ ∃ b2 : Nat, mR M x0 71 = some b2 ∧ ok M b2 21 ∧ vp_in x3 (mL M b2) ∧ DX11_codes_135 h x0 x3 (x2 &&& (-2)) (mAI M b2 (x3 : Int32).toNatClampNeg) M Q))
set_option maxRecDepth 20000 in
set_option maxHeartbeats 2000000 in
theorem VX11_codes_110 {h : Nat} {x0 : Nat} {x2 : Int32} {x3 : Int32} {M : Mem} {Q : Option Value → Mem → Prop} (H : DX11_codes_110 h x0 x2 x3 M Q) : T (h + 1) mdX11_codes 110 [(0, .ref x0), (2, .int x2), (3, .int x3)] [] M Q := by
  unfold DX11_codes_110 at H
  refine xt_iload_n (j := 2) dX11_codes_110 rfl rfl ?_
  refine xt_iconst (v := -1) dX11_codes_111 (by decide) ?_
  refine xt_icmp_eq (tgt := 147) dX11_codes_112 (by decide) (fun hc => ?_) (fun hc => ?_)
  · have H := H.1 hc
    refine xt_iload_n (j := 1) dX11_codes_147 rfl rfl ?_
    exact xt_ireturn dX11_codes_148 rfl H
  · have H := H.2 hc
    refine xt_iload_n (j := 1) dX11_codes_115 rfl rfl ?_
    refine xt_bipush (v := -2) dX11_codes_116 (by decide) ?_
    refine xt_iand dX11_codes_118 ?_
    refine xt_iload_n (j := 1) dX11_codes_119 rfl rfl ?_
    refine xt_iconst (v := 1) dX11_codes_120 (by decide) ?_
    refine xt_iand dX11_codes_121 ?_
    refine xt_if_eq (tgt := 134) dX11_codes_122 (by decide) (fun hc => ?_) (fun hc => ?_)
    · have H := H.1 hc
      refine xt_iconst (v := 0) dX11_codes_134 (by decide) ?_
      exact xt_sub [0, 2] rfl (VX11_codes_135 H)
    · have H := H.2 hc
      refine xt_aload_n (j := 0) dX11_codes_125 rfl rfl ?_
      obtain ⟨ho1, H⟩ := H
      obtain ⟨b2, hb, H⟩ := H
      refine xt_getR dX11_codes_126 (flX11_189 rfl) ft_13_71 ho1.1 ho1.2 hb ?_
      refine xt_iload_n (j := 2) dX11_codes_129 rfl rfl ?_
      obtain ⟨ho3, H⟩ := H
      obtain ⟨hi, H⟩ := H
      refine xt_iald dX11_codes_130 ho3.1 ho3.2 hi ?_
      refine xt_goto (tgt := 135) dX11_codes_131 (by decide) ?_
      exact xt_sub [0, 2] rfl (VX11_codes_135 H)
def DX11_codes_250 (h : Nat) (x0 : Nat) (x3 : Int32) (s0 : Int32) (M : Mem) (Q : Option Value → Mem → Prop) : Prop :=
  ok M x0 13 ∧ ∃ b2 : Nat, mR M x0 66 = some b2 ∧ ok M b2 21 ∧ vp_in x3 (mL M b2) ∧ T (h + 1) mdX11_codes 180 [(0, .ref x0), (2, .int s0), (3, .int (mAI M b2 (x3 : Int32).toNatClampNeg))] [] M Q
set_option maxRecDepth 20000 in
set_option maxHeartbeats 2000000 in
theorem VX11_codes_250 {h : Nat} {x0 : Nat} {x3 : Int32} {s0 : Int32} {M : Mem} {Q : Option Value → Mem → Prop} (H : DX11_codes_250 h x0 x3 s0 M Q) : T (h + 1) mdX11_codes 250 [(0, .ref x0), (3, .int x3)] [.int s0] M Q := by
  unfold DX11_codes_250 at H
  refine xt_istore_n (lv' := [(2, .int s0), (0, .ref x0), (3, .int x3)]) dX11_codes_250 rfl (by decide) rfl ?_
  refine xt_aload_n (j := 1) dX11_codes_251 rfl rfl ?_
  obtain ⟨ho1, H⟩ := H
  obtain ⟨b2, hb, H⟩ := H
  refine xt_getR dX11_codes_252 (flX11_174 rfl) ft_13_66 ho1.1 ho1.2 hb ?_
  refine xt_iload_n (j := 2) dX11_codes_255 rfl rfl ?_
  obtain ⟨ho3, H⟩ := H
  obtain ⟨hi, H⟩ := H
  refine xt_iald dX11_codes_256 ho3.1 ho3.2 hi ?_
  refine xt_istore_n (lv' := [(3, .int (mAI M b2 (x3 : Int32).toNatClampNeg)), (2, .int s0), (0, .ref x0)]) dX11_codes_257 rfl (by decide) rfl ?_
  refine xt_goto (tgt := 180) dX11_codes_258 (by decide) ?_
  exact xt_sub (lv' := [(0, .ref x0), (2, .int s0), (3, .int (mAI M b2 (x3 : Int32).toNatClampNeg))]) [2, 1, 0] rfl H
def DX11_codes_232 (h : Nat) (x0 : Nat) (x3 : Int32) (M : Mem) (Q : Option Value → Mem → Prop) : Prop :=
  DX11_codes_250 h x0 x3 0 M Q
set_option maxRecDepth 20000 in
set_option maxHeartbeats 2000000 in
theorem VX11_codes_232 {h : Nat} {x0 : Nat} {x3 : Int32} {M : Mem} {Q : Option Value → Mem → Prop} (H : DX11_codes_232 h x0 x3 M Q) : T (h + 1) mdX11_codes 232 [(0, .ref x0), (3, .int x3)] [] M Q := by
  unfold DX11_codes_232 at H
  refine xt_iconst (v := 0) dX11_codes_232 (by decide) ?_
  refine xt_goto (tgt := 250) dX11_codes_233 (by decide) ?_
  exact xt_sub [0, 1] rfl (VX11_codes_250 H)
def DX11_codes_217 (h : Nat) (x0 : Nat) (x2 : Int32) (x3 : Int32) (s0 : Int32) (M : Mem) (Q : Option Value → Mem → Prop) : Prop :=
  (x2 = 0 → DX11_codes_232 h x0 x3 M Q) ∧
  (¬ (x2 = 0) → ok M x0 13 ∧ ∃ b2 : Nat, mR M x0 71 = some b2 ∧ ok M b2 21 ∧ vp_in x3 (mL M b2) ∧ (¬ (mAI M b2 (x3 : Int32).toNatClampNeg) = 0 → ∃ b4 : Nat, mR M x0 71 = some b4 ∧ ok M b4 21 ∧ vp_in x3 (mL M b4) ∧ DX11_codes_250 h x0 x3 (((x2 ||| (mAI M b4 (x3 : Int32).toNatClampNeg)) >>> (s0 &&& 31)) <<< (s0 &&& 31)) M Q) ∧
  ((mAI M b2 (x3 : Int32).toNatClampNeg) = 0 → DX11_codes_232 h x0 x3 M Q))
set_option maxRecDepth 20000 in
set_option maxHeartbeats 2000000 in
theorem VX11_codes_217 {h : Nat} {x0 : Nat} {x2 : Int32} {x3 : Int32} {s0 : Int32} {M : Mem} {Q : Option Value → Mem → Prop} (H : DX11_codes_217 h x0 x2 x3 s0 M Q) : T (h + 1) mdX11_codes 217 [(0, .ref x0), (2, .int x2), (3, .int x3)] [.int s0] M Q := by
  unfold DX11_codes_217 at H
  refine xt_istore (lv' := [(4, .int s0), (0, .ref x0), (2, .int x2), (3, .int x3)]) dX11_codes_217 (by decide) rfl ?_
  refine xt_iload_n (j := 2) dX11_codes_219 rfl rfl ?_
  refine xt_if_eq (tgt := 232) dX11_codes_220 (by decide) (fun hc => ?_) (fun hc => ?_)
  · have H := H.1 hc
    exact xt_sub [1, 3] rfl (VX11_codes_232 H)
  · have H := H.2 hc
    refine xt_aload_n (j := 1) dX11_codes_223 rfl rfl ?_
    obtain ⟨ho1, H⟩ := H
    obtain ⟨b2, hb, H⟩ := H
    refine xt_getR dX11_codes_224 (flX11_189 rfl) ft_13_71 ho1.1 ho1.2 hb ?_
    refine xt_iload_n (j := 3) dX11_codes_227 rfl rfl ?_
    obtain ⟨ho3, H⟩ := H
    obtain ⟨hi, H⟩ := H
    refine xt_iald dX11_codes_228 ho3.1 ho3.2 hi ?_
    refine xt_if_ne (tgt := 236) dX11_codes_229 (by decide) (fun hc => ?_) (fun hc => ?_)
    · have H := H.1 hc
      refine xt_iload_n (j := 2) dX11_codes_236 rfl rfl ?_
      refine xt_aload_n (j := 1) dX11_codes_237 rfl rfl ?_
      obtain ⟨b4, hb, H⟩ := H
      refine xt_getR dX11_codes_238 (flX11_189 rfl) ft_13_71 ho1.1 ho1.2 hb ?_
      refine xt_iload_n (j := 3) dX11_codes_241 rfl rfl ?_
      obtain ⟨ho5, H⟩ := H
      obtain ⟨hi, H⟩ := H
      refine xt_iald dX11_codes_242 ho5.1 ho5.2 hi ?_
      refine xt_ior dX11_codes_243 ?_
      refine xt_iload (j := 0) dX11_codes_244 rfl ?_
      refine xt_ishr dX11_codes_246 ?_
      refine xt_iload (j := 0) dX11_codes_247 rfl ?_
      refine xt_ishl dX11_codes_249 ?_
      exact xt_sub [1, 3] rfl (VX11_codes_250 H)
    · have H := H.2 hc
      exact xt_sub [1, 3] rfl (VX11_codes_232 H)
def DX11_codes_180 (h : Nat) (x0 : Nat) (x2 : Int32) (x3 : Int32) (M : Mem) (Q : Option Value → Mem → Prop) : Prop :=
  (x3 = (-1) → Q (some (.int x2)) M) ∧
  (¬ (x3 = (-1)) → E h mdX11_lowest [.int x2] M (fun r M1 => mE M M1 → ∃ r2 : Int32, r = some (.int r2) ∧ ok M1 x0 13 ∧ ∃ b4 : Nat, mR M1 x0 71 = some b4 ∧ ok M1 b4 21 ∧ vp_in x3 (mL M1 b4) ∧ E h mdX11_lowest [.int (mAI M1 b4 (x3 : Int32).toNatClampNeg)] M1 (fun r M6 => mE M1 M6 → ∃ r7 : Int32, r = some (.int r7) ∧ (r2 ≤ r7 → ∃ b8 : Nat, mR M6 x0 71 = some b8 ∧ ok M6 b8 21 ∧ vp_in x3 (mL M6 b8) ∧ E h mdX11_lowest [.int (mAI M6 b8 (x3 : Int32).toNatClampNeg)] M6 (fun r M10 => mE M6 M10 → ∃ r11 : Int32, r = some (.int r11) ∧ DX11_codes_217 h x0 x2 x3 r11 M10 Q)) ∧
  (¬ (r2 ≤ r7) → E h mdX11_lowest [.int x2] M6 (fun r M12 => mE M6 M12 → ∃ r13 : Int32, r = some (.int r13) ∧ DX11_codes_217 h x0 x2 x3 r13 M12 Q)))))
set_option maxRecDepth 20000 in
set_option maxHeartbeats 2000000 in
theorem VX11_codes_180 {h : Nat} {x0 : Nat} {x2 : Int32} {x3 : Int32} {M : Mem} {Q : Option Value → Mem → Prop} (H : DX11_codes_180 h x0 x2 x3 M Q) : T (h + 1) mdX11_codes 180 [(0, .ref x0), (2, .int x2), (3, .int x3)] [] M Q := by
  unfold DX11_codes_180 at H
  refine xt_iload_n (j := 2) dX11_codes_180 rfl rfl ?_
  refine xt_iconst (v := -1) dX11_codes_181 (by decide) ?_
  refine xt_icmp_eq (tgt := 261) dX11_codes_182 (by decide) (fun hc => ?_) (fun hc => ?_)
  · have H := H.1 hc
    refine xt_iload_n (j := 1) dX11_codes_261 rfl rfl ?_
    exact xt_ireturn dX11_codes_262 rfl H
  · have H := H.2 hc
    refine xt_iload_n (j := 1) dX11_codes_185 rfl rfl ?_
    refine xt_callS (h2 := h) (as := [.int x2]) (st := []) dX11_codes_186 (mlX11_697 rfl) rfl (by first | decide | (simp [Value.category]; done)) (Nat.le_refl _) H (fun r M1 HH hE => ?_)
    obtain ⟨r2, hr, H⟩ := HH hE
    subst hr
    show T _ _ _ _ [.int r2] _ _
    refine xt_aload_n (j := 0) dX11_codes_189 rfl rfl ?_
    obtain ⟨ho3, H⟩ := H
    obtain ⟨b4, hb, H⟩ := H
    refine xt_getR dX11_codes_190 (flX11_189 rfl) ft_13_71 ho3.1 ho3.2 hb ?_
    refine xt_iload_n (j := 2) dX11_codes_193 rfl rfl ?_
    obtain ⟨ho5, H⟩ := H
    obtain ⟨hi, H⟩ := H
    refine xt_iald dX11_codes_194 ho5.1 ho5.2 hi ?_
    refine xt_callS (h2 := h) (as := [.int (mAI M1 b4 (x3 : Int32).toNatClampNeg)]) (st := [.int r2]) dX11_codes_195 (mlX11_697 rfl) rfl (by first | decide | (simp [Value.category]; done)) (Nat.le_refl _) H (fun r M6 HH hE => ?_)
    obtain ⟨r7, hr, H⟩ := HH hE
    subst hr
    have ho3 := ok_E ho3 hE
    show T _ _ _ _ [.int r7, .int r2] _ _
    refine xt_icmp_le (tgt := 208) dX11_codes_198 (by decide) (fun hc => ?_) (fun hc => ?_)
    · have H := H.1 hc
      refine xt_aload_n (j := 0) dX11_codes_208 rfl rfl ?_
      obtain ⟨b8, hb, H⟩ := H
      refine xt_getR dX11_codes_209 (flX11_189 rfl) ft_13_71 ho3.1 ho3.2 hb ?_
      refine xt_iload_n (j := 2) dX11_codes_212 rfl rfl ?_
      obtain ⟨ho9, H⟩ := H
      obtain ⟨hi, H⟩ := H
      refine xt_iald dX11_codes_213 ho9.1 ho9.2 hi ?_
      refine xt_callS (h2 := h) (as := [.int (mAI M6 b8 (x3 : Int32).toNatClampNeg)]) (st := []) dX11_codes_214 (mlX11_697 rfl) rfl (by first | decide | (simp [Value.category]; done)) (Nat.le_refl _) H (fun r M10 HH hE => ?_)
      obtain ⟨r11, hr, H⟩ := HH hE
      subst hr
      have ho3 := ok_E ho3 hE
      show T _ _ _ _ [.int r11] _ _
      exact xt_sub [0, 1, 2] rfl (VX11_codes_217 H)
    · have H := H.2 hc
      refine xt_iload_n (j := 1) dX11_codes_201 rfl rfl ?_
      refine xt_callS (h2 := h) (as := [.int x2]) (st := []) dX11_codes_202 (mlX11_697 rfl) rfl (by first | decide | (simp [Value.category]; done)) (Nat.le_refl _) H (fun r M12 HH hE => ?_)
      obtain ⟨r13, hr, H⟩ := HH hE
      subst hr
      have ho3 := ok_E ho3 hE
      show T _ _ _ _ [.int r13] _ _
      refine xt_goto (tgt := 217) dX11_codes_205 (by decide) ?_
      exact xt_sub [0, 1, 2] rfl (VX11_codes_217 H)
def DX11_codes_0 (h : Nat) (x0 : Nat) (x1 : Int32) (M : Mem) (Q : Option Value → Mem → Prop) : Prop :=
  ok M x0 13 ∧ ∃ b2 : Nat, mR M x0 64 = some b2 ∧ ok M b2 21 ∧ vp_in x1 (mL M b2) ∧ ∃ b4 : Nat, mR M x0 62 = some b4 ∧ ok M b4 21 ∧ vp_in x1 (mL M b4) ∧ ((mAI M b4 (x1 : Int32).toNatClampNeg) = 2 → Q (some (.int 2)) M) ∧
  ((mAI M b4 (x1 : Int32).toNatClampNeg) = 3 → ∃ b6 : Nat, mR M x0 70 = some b6 ∧ ok M b6 21 ∧ vp_in x1 (mL M b6) ∧ Q (some (.int ((1 : Int32) <<< ((mAI M b6 (x1 : Int32).toNatClampNeg) &&& 31)))) M) ∧
  ((mAI M b4 (x1 : Int32).toNatClampNeg) = 4 → ∃ b8 : Nat, mR M x0 71 = some b8 ∧ ok M b8 21 ∧ vp_in (mAI M b2 (x1 : Int32).toNatClampNeg) (mL M b8) ∧ ∃ b10 : Nat, mR M x0 66 = some b10 ∧ ok M b10 21 ∧ vp_in (mAI M b2 (x1 : Int32).toNatClampNeg) (mL M b10) ∧ (¬ (mAI M b10 (mAI M b2 (x1 : Int32).toNatClampNeg : Int32).toNatClampNeg) = (-1) → ∃ b12 : Nat, mR M x0 71 = some b12 ∧ ∃ b13 : Nat, mR M x0 66 = some b13 ∧ ok M b13 21 ∧ vp_in (mAI M b2 (x1 : Int32).toNatClampNeg) (mL M b13) ∧ ok M b12 21 ∧ vp_in (mAI M b13 (mAI M b2 (x1 : Int32).toNatClampNeg : Int32).toNatClampNeg) (mL M b12) ∧ DX11_codes_106 h (mAI M b8 (mAI M b2 (x1 : Int32).toNatClampNeg : Int32).toNatClampNeg) (mAI M b12 (mAI M b13 (mAI M b2 (x1 : Int32).toNatClampNeg : Int32).toNatClampNeg : Int32).toNatClampNeg) M Q) ∧
  ((mAI M b10 (mAI M b2 (x1 : Int32).toNatClampNeg : Int32).toNatClampNeg) = (-1) → DX11_codes_106 h (mAI M b8 (mAI M b2 (x1 : Int32).toNatClampNeg : Int32).toNatClampNeg) 1 M Q)) ∧
  ((mAI M b4 (x1 : Int32).toNatClampNeg) = 5 → ∃ b16 : Nat, mR M x0 71 = some b16 ∧ ok M b16 21 ∧ vp_in (mAI M b2 (x1 : Int32).toNatClampNeg) (mL M b16) ∧ ∃ b18 : Nat, mR M x0 66 = some b18 ∧ ok M b18 21 ∧ vp_in (mAI M b2 (x1 : Int32).toNatClampNeg) (mL M b18) ∧ (¬ (mAI M b18 (mAI M b2 (x1 : Int32).toNatClampNeg : Int32).toNatClampNeg) = (-1) → ∃ b20 : Nat, mR M x0 71 = some b20 ∧ ∃ b21 : Nat, mR M x0 66 = some b21 ∧ ok M b21 21 ∧ vp_in (mAI M b2 (x1 : Int32).toNatClampNeg) (mL M b21) ∧ ok M b20 21 ∧ vp_in (mAI M b21 (mAI M b2 (x1 : Int32).toNatClampNeg : Int32).toNatClampNeg) (mL M b20) ∧ DX11_codes_106 h (mAI M b16 (mAI M b2 (x1 : Int32).toNatClampNeg : Int32).toNatClampNeg) (mAI M b20 (mAI M b21 (mAI M b2 (x1 : Int32).toNatClampNeg : Int32).toNatClampNeg : Int32).toNatClampNeg) M Q) ∧
  ((mAI M b18 (mAI M b2 (x1 : Int32).toNatClampNeg : Int32).toNatClampNeg) = (-1) → DX11_codes_106 h (mAI M b16 (mAI M b2 (x1 : Int32).toNatClampNeg : Int32).toNatClampNeg) 1 M Q)) ∧
  ((mAI M b4 (x1 : Int32).toNatClampNeg) = 6 → T (h + 1) mdX11_codes 110 [(0, .ref x0), (2, .int 1), (3, .int (mAI M b2 (x1 : Int32).toNatClampNeg))] [] M Q) ∧
  ((mAI M b4 (x1 : Int32).toNatClampNeg) = 7 → ∃ b24 : Nat, mR M x0 71 = some b24 ∧ ok M b24 21 ∧ vp_in (mAI M b2 (x1 : Int32).toNatClampNeg) (mL M b24) ∧ Q (some (.int ((mAI M b24 (mAI M b2 (x1 : Int32).toNatClampNeg : Int32).toNatClampNeg) &&& (-2)))) M) ∧
  ((mAI M b4 (x1 : Int32).toNatClampNeg) = 8 → ∃ b26 : Nat, mR M x0 71 = some b26 ∧ ok M b26 21 ∧ vp_in (mAI M b2 (x1 : Int32).toNatClampNeg) (mL M b26) ∧ Q (some (.int (mAI M b26 (mAI M b2 (x1 : Int32).toNatClampNeg : Int32).toNatClampNeg))) M) ∧
  ((mAI M b4 (x1 : Int32).toNatClampNeg) = 9 → ∃ b28 : Nat, mR M x0 71 = some b28 ∧ ok M b28 21 ∧ vp_in (mAI M b2 (x1 : Int32).toNatClampNeg) (mL M b28) ∧ ∃ b30 : Nat, mR M x0 66 = some b30 ∧ ok M b30 21 ∧ vp_in (mAI M b2 (x1 : Int32).toNatClampNeg) (mL M b30) ∧ T (h + 1) mdX11_codes 180 [(0, .ref x0), (2, .int (mAI M b28 (mAI M b2 (x1 : Int32).toNatClampNeg : Int32).toNatClampNeg)), (3, .int (mAI M b30 (mAI M b2 (x1 : Int32).toNatClampNeg : Int32).toNatClampNeg))] [] M Q) ∧
  ((mAI M b4 (x1 : Int32).toNatClampNeg) = 10 → ∃ b32 : Nat, mR M x0 71 = some b32 ∧ ok M b32 21 ∧ vp_in (mAI M b2 (x1 : Int32).toNatClampNeg) (mL M b32) ∧ ∃ b34 : Nat, mR M x0 71 = some b34 ∧ ok M b34 21 ∧ vp_in (mAI M b2 (x1 : Int32).toNatClampNeg) (mL M b34) ∧ ∃ b36 : Nat, mR M x0 71 = some b36 ∧ ok M b36 21 ∧ vp_in (mAI M b2 (x1 : Int32).toNatClampNeg) (mL M b36) ∧ Q (some (.int ((((mAI M b32 (mAI M b2 (x1 : Int32).toNatClampNeg : Int32).toNatClampNeg) &&& 3) ||| (((mAI M b34 (mAI M b2 (x1 : Int32).toNatClampNeg : Int32).toNatClampNeg) >>> ((2 : Int32) &&& 31)) &&& 1)) ||| (((mAI M b36 (mAI M b2 (x1 : Int32).toNatClampNeg : Int32).toNatClampNeg) >>> ((1 : Int32) &&& 31)) &&& (-4))))) M) ∧
  (((mAI M b4 (x1 : Int32).toNatClampNeg : Int32).toInt < 2 ∨ 10 < (mAI M b4 (x1 : Int32).toNatClampNeg : Int32).toInt) → Q (some (.int 1)) M)
set_option maxRecDepth 20000 in
set_option maxHeartbeats 2000000 in
theorem VX11_codes_0 {h : Nat} {x0 : Nat} {x1 : Int32} {M : Mem} {Q : Option Value → Mem → Prop} (H : DX11_codes_0 h x0 x1 M Q) : T (h + 1) mdX11_codes 0 [(0, .ref x0), (1, .int x1)] [] M Q := by
  unfold DX11_codes_0 at H
  refine xt_iconst (v := 0) dX11_codes_0 (by decide) ?_
  refine xt_istore_n (lv' := [(2, .int 0), (0, .ref x0), (1, .int x1)]) dX11_codes_1 rfl (by decide) rfl ?_
  refine xt_aload_n (j := 1) dX11_codes_2 rfl rfl ?_
  obtain ⟨ho1, H⟩ := H
  obtain ⟨b2, hb, H⟩ := H
  refine xt_getR dX11_codes_3 (flX11_168 rfl) ft_13_64 ho1.1 ho1.2 hb ?_
  refine xt_iload_n (j := 2) dX11_codes_6 rfl rfl ?_
  obtain ⟨ho3, H⟩ := H
  obtain ⟨hi, H⟩ := H
  refine xt_iald dX11_codes_7 ho3.1 ho3.2 hi ?_
  refine xt_istore_n (lv' := [(3, .int (mAI M b2 (x1 : Int32).toNatClampNeg)), (2, .int 0), (0, .ref x0), (1, .int x1)]) dX11_codes_8 rfl (by decide) rfl ?_
  refine xt_aload_n (j := 2) dX11_codes_9 rfl rfl ?_
  obtain ⟨b4, hb, H⟩ := H
  refine xt_getR dX11_codes_10 (flX11_162 rfl) ft_13_62 ho1.1 ho1.2 hb ?_
  refine xt_iload_n (j := 3) dX11_codes_13 rfl rfl ?_
  obtain ⟨ho5, H⟩ := H
  obtain ⟨hi, H⟩ := H
  refine xt_iald dX11_codes_14 ho5.1 ho5.2 hi ?_
  by_cases hsw : (mAI M b4 (x1 : Int32).toNatClampNeg : Int32).toInt < 2 ∨ 10 < (mAI M b4 (x1 : Int32).toNatClampNeg : Int32).toInt
  · refine xt_tableOut (tgt := 295) dX11_codes_15 hsw (by decide) ?_
    have H := H.2.2.2.2.2.2.2.2.2 hsw
    refine xt_iconst (v := 1) dX11_codes_295 (by decide) ?_
    exact xt_ireturn dX11_codes_296 rfl H
  · have hsw2 : (mAI M b4 (x1 : Int32).toNatClampNeg : Int32).toInt = 2 ∨ (mAI M b4 (x1 : Int32).toNatClampNeg : Int32).toInt = 3 ∨ (mAI M b4 (x1 : Int32).toNatClampNeg : Int32).toInt = 4 ∨ (mAI M b4 (x1 : Int32).toNatClampNeg : Int32).toInt = 5 ∨ (mAI M b4 (x1 : Int32).toNatClampNeg : Int32).toInt = 6 ∨ (mAI M b4 (x1 : Int32).toNatClampNeg : Int32).toInt = 7 ∨ (mAI M b4 (x1 : Int32).toNatClampNeg : Int32).toInt = 8 ∨ (mAI M b4 (x1 : Int32).toNatClampNeg : Int32).toInt = 9 ∨ (mAI M b4 (x1 : Int32).toNatClampNeg : Int32).toInt = 10 := by omega
    rcases hsw2 with hv | hv | hv | hv | hv | hv | hv | hv | hv
    · have hx : (mAI M b4 (x1 : Int32).toNatClampNeg) = 2 := i32_ofInt hv
      have H := H.1 hx
      refine xt_tableIn (tgt := 64) dX11_codes_15 (by omega) (by omega) (by rw [hv]; rfl) (by decide) ?_
      refine xt_iconst (v := 2) dX11_codes_64 (by decide) ?_
      exact xt_ireturn dX11_codes_65 rfl H
    · have hx : (mAI M b4 (x1 : Int32).toNatClampNeg) = 3 := i32_ofInt hv
      have H := H.2.1 hx
      refine xt_tableIn (tgt := 66) dX11_codes_15 (by omega) (by omega) (by rw [hv]; rfl) (by decide) ?_
      refine xt_iconst (v := 1) dX11_codes_66 (by decide) ?_
      refine xt_aload_n (j := 2) dX11_codes_67 rfl rfl ?_
      obtain ⟨b6, hb, H⟩ := H
      refine xt_getR dX11_codes_68 (flX11_186 rfl) ft_13_70 ho1.1 ho1.2 hb ?_
      refine xt_iload_n (j := 3) dX11_codes_71 rfl rfl ?_
      obtain ⟨ho7, H⟩ := H
      obtain ⟨hi, H⟩ := H
      refine xt_iald dX11_codes_72 ho7.1 ho7.2 hi ?_
      refine xt_ishl dX11_codes_73 ?_
      exact xt_ireturn dX11_codes_74 rfl H
    · have hx : (mAI M b4 (x1 : Int32).toNatClampNeg) = 4 := i32_ofInt hv
      have H := H.2.2.1 hx
      refine xt_tableIn (tgt := 75) dX11_codes_15 (by omega) (by omega) (by rw [hv]; rfl) (by decide) ?_
      refine xt_aload_n (j := 2) dX11_codes_75 rfl rfl ?_
      obtain ⟨b8, hb, H⟩ := H
      refine xt_getR dX11_codes_76 (flX11_189 rfl) ft_13_71 ho1.1 ho1.2 hb ?_
      refine xt_iload_n (j := 0) dX11_codes_79 rfl rfl ?_
      obtain ⟨ho9, H⟩ := H
      obtain ⟨hi, H⟩ := H
      refine xt_iald dX11_codes_80 ho9.1 ho9.2 hi ?_
      refine xt_aload_n (j := 2) dX11_codes_81 rfl rfl ?_
      obtain ⟨b10, hb, H⟩ := H
      refine xt_getR dX11_codes_82 (flX11_174 rfl) ft_13_66 ho1.1 ho1.2 hb ?_
      refine xt_iload_n (j := 0) dX11_codes_85 rfl rfl ?_
      obtain ⟨ho11, H⟩ := H
      obtain ⟨hi, H⟩ := H
      refine xt_iald dX11_codes_86 ho11.1 ho11.2 hi ?_
      refine xt_iconst (v := -1) dX11_codes_87 (by decide) ?_
      refine xt_icmp_ne (tgt := 95) dX11_codes_88 (by decide) (fun hc => ?_) (fun hc => ?_)
      · have H := H.1 hc
        refine xt_aload_n (j := 2) dX11_codes_95 rfl rfl ?_
        obtain ⟨b12, hb, H⟩ := H
        refine xt_getR dX11_codes_96 (flX11_189 rfl) ft_13_71 ho1.1 ho1.2 hb ?_
        refine xt_aload_n (j := 2) dX11_codes_99 rfl rfl ?_
        obtain ⟨b13, hb, H⟩ := H
        refine xt_getR dX11_codes_100 (flX11_174 rfl) ft_13_66 ho1.1 ho1.2 hb ?_
        refine xt_iload_n (j := 0) dX11_codes_103 rfl rfl ?_
        obtain ⟨ho14, H⟩ := H
        obtain ⟨hi, H⟩ := H
        refine xt_iald dX11_codes_104 ho14.1 ho14.2 hi ?_
        obtain ⟨ho15, H⟩ := H
        obtain ⟨hi, H⟩ := H
        refine xt_iald dX11_codes_105 ho15.1 ho15.2 hi ?_
        exact xt_sub [] rfl (VX11_codes_106 H)
      · have H := H.2 hc
        refine xt_iconst (v := 1) dX11_codes_91 (by decide) ?_
        refine xt_goto (tgt := 106) dX11_codes_92 (by decide) ?_
        exact xt_sub [] rfl (VX11_codes_106 H)
    · have hx : (mAI M b4 (x1 : Int32).toNatClampNeg) = 5 := i32_ofInt hv
      have H := H.2.2.2.1 hx
      refine xt_tableIn (tgt := 75) dX11_codes_15 (by omega) (by omega) (by rw [hv]; rfl) (by decide) ?_
      refine xt_aload_n (j := 2) dX11_codes_75 rfl rfl ?_
      obtain ⟨b16, hb, H⟩ := H
      refine xt_getR dX11_codes_76 (flX11_189 rfl) ft_13_71 ho1.1 ho1.2 hb ?_
      refine xt_iload_n (j := 0) dX11_codes_79 rfl rfl ?_
      obtain ⟨ho17, H⟩ := H
      obtain ⟨hi, H⟩ := H
      refine xt_iald dX11_codes_80 ho17.1 ho17.2 hi ?_
      refine xt_aload_n (j := 2) dX11_codes_81 rfl rfl ?_
      obtain ⟨b18, hb, H⟩ := H
      refine xt_getR dX11_codes_82 (flX11_174 rfl) ft_13_66 ho1.1 ho1.2 hb ?_
      refine xt_iload_n (j := 0) dX11_codes_85 rfl rfl ?_
      obtain ⟨ho19, H⟩ := H
      obtain ⟨hi, H⟩ := H
      refine xt_iald dX11_codes_86 ho19.1 ho19.2 hi ?_
      refine xt_iconst (v := -1) dX11_codes_87 (by decide) ?_
      refine xt_icmp_ne (tgt := 95) dX11_codes_88 (by decide) (fun hc => ?_) (fun hc => ?_)
      · have H := H.1 hc
        refine xt_aload_n (j := 2) dX11_codes_95 rfl rfl ?_
        obtain ⟨b20, hb, H⟩ := H
        refine xt_getR dX11_codes_96 (flX11_189 rfl) ft_13_71 ho1.1 ho1.2 hb ?_
        refine xt_aload_n (j := 2) dX11_codes_99 rfl rfl ?_
        obtain ⟨b21, hb, H⟩ := H
        refine xt_getR dX11_codes_100 (flX11_174 rfl) ft_13_66 ho1.1 ho1.2 hb ?_
        refine xt_iload_n (j := 0) dX11_codes_103 rfl rfl ?_
        obtain ⟨ho22, H⟩ := H
        obtain ⟨hi, H⟩ := H
        refine xt_iald dX11_codes_104 ho22.1 ho22.2 hi ?_
        obtain ⟨ho23, H⟩ := H
        obtain ⟨hi, H⟩ := H
        refine xt_iald dX11_codes_105 ho23.1 ho23.2 hi ?_
        exact xt_sub [] rfl (VX11_codes_106 H)
      · have H := H.2 hc
        refine xt_iconst (v := 1) dX11_codes_91 (by decide) ?_
        refine xt_goto (tgt := 106) dX11_codes_92 (by decide) ?_
        exact xt_sub [] rfl (VX11_codes_106 H)
    · have hx : (mAI M b4 (x1 : Int32).toNatClampNeg) = 6 := i32_ofInt hv
      have H := H.2.2.2.2.1 hx
      refine xt_tableIn (tgt := 108) dX11_codes_15 (by omega) (by omega) (by rw [hv]; rfl) (by decide) ?_
      refine xt_iconst (v := 1) dX11_codes_108 (by decide) ?_
      refine xt_istore_n (lv' := [(2, .int 1), (3, .int (mAI M b2 (x1 : Int32).toNatClampNeg)), (0, .ref x0), (1, .int x1)]) dX11_codes_109 rfl (by decide) rfl ?_
      exact xt_sub (lv' := [(0, .ref x0), (2, .int 1), (3, .int (mAI M b2 (x1 : Int32).toNatClampNeg))]) [2, 0, 1] rfl H
    · have hx : (mAI M b4 (x1 : Int32).toNatClampNeg) = 7 := i32_ofInt hv
      have H := H.2.2.2.2.2.1 hx
      refine xt_tableIn (tgt := 149) dX11_codes_15 (by omega) (by omega) (by rw [hv]; rfl) (by decide) ?_
      refine xt_aload_n (j := 2) dX11_codes_149 rfl rfl ?_
      obtain ⟨b24, hb, H⟩ := H
      refine xt_getR dX11_codes_150 (flX11_189 rfl) ft_13_71 ho1.1 ho1.2 hb ?_
      refine xt_iload_n (j := 0) dX11_codes_153 rfl rfl ?_
      obtain ⟨ho25, H⟩ := H
      obtain ⟨hi, H⟩ := H
      refine xt_iald dX11_codes_154 ho25.1 ho25.2 hi ?_
      refine xt_bipush (v := -2) dX11_codes_155 (by decide) ?_
      refine xt_iand dX11_codes_157 ?_
      exact xt_ireturn dX11_codes_158 rfl H
    · have hx : (mAI M b4 (x1 : Int32).toNatClampNeg) = 8 := i32_ofInt hv
      have H := H.2.2.2.2.2.2.1 hx
      refine xt_tableIn (tgt := 159) dX11_codes_15 (by omega) (by omega) (by rw [hv]; rfl) (by decide) ?_
      refine xt_aload_n (j := 2) dX11_codes_159 rfl rfl ?_
      obtain ⟨b26, hb, H⟩ := H
      refine xt_getR dX11_codes_160 (flX11_189 rfl) ft_13_71 ho1.1 ho1.2 hb ?_
      refine xt_iload_n (j := 0) dX11_codes_163 rfl rfl ?_
      obtain ⟨ho27, H⟩ := H
      obtain ⟨hi, H⟩ := H
      refine xt_iald dX11_codes_164 ho27.1 ho27.2 hi ?_
      exact xt_ireturn dX11_codes_165 rfl H
    · have hx : (mAI M b4 (x1 : Int32).toNatClampNeg) = 9 := i32_ofInt hv
      have H := H.2.2.2.2.2.2.2.1 hx
      refine xt_tableIn (tgt := 166) dX11_codes_15 (by omega) (by omega) (by rw [hv]; rfl) (by decide) ?_
      refine xt_aload_n (j := 2) dX11_codes_166 rfl rfl ?_
      obtain ⟨b28, hb, H⟩ := H
      refine xt_getR dX11_codes_167 (flX11_189 rfl) ft_13_71 ho1.1 ho1.2 hb ?_
      refine xt_iload_n (j := 0) dX11_codes_170 rfl rfl ?_
      obtain ⟨ho29, H⟩ := H
      obtain ⟨hi, H⟩ := H
      refine xt_iald dX11_codes_171 ho29.1 ho29.2 hi ?_
      refine xt_istore_n (lv' := [(2, .int (mAI M b28 (mAI M b2 (x1 : Int32).toNatClampNeg : Int32).toNatClampNeg)), (3, .int (mAI M b2 (x1 : Int32).toNatClampNeg)), (0, .ref x0), (1, .int x1)]) dX11_codes_172 rfl (by decide) rfl ?_
      refine xt_aload_n (j := 2) dX11_codes_173 rfl rfl ?_
      obtain ⟨b30, hb, H⟩ := H
      refine xt_getR dX11_codes_174 (flX11_174 rfl) ft_13_66 ho1.1 ho1.2 hb ?_
      refine xt_iload_n (j := 1) dX11_codes_177 rfl rfl ?_
      obtain ⟨ho31, H⟩ := H
      obtain ⟨hi, H⟩ := H
      refine xt_iald dX11_codes_178 ho31.1 ho31.2 hi ?_
      refine xt_istore_n (lv' := [(3, .int (mAI M b30 (mAI M b2 (x1 : Int32).toNatClampNeg : Int32).toNatClampNeg)), (2, .int (mAI M b28 (mAI M b2 (x1 : Int32).toNatClampNeg : Int32).toNatClampNeg)), (0, .ref x0), (1, .int x1)]) dX11_codes_179 rfl (by decide) rfl ?_
      exact xt_sub (lv' := [(0, .ref x0), (2, .int (mAI M b28 (mAI M b2 (x1 : Int32).toNatClampNeg : Int32).toNatClampNeg)), (3, .int (mAI M b30 (mAI M b2 (x1 : Int32).toNatClampNeg : Int32).toNatClampNeg))]) [2, 1, 0] rfl H
    · have hx : (mAI M b4 (x1 : Int32).toNatClampNeg) = 10 := i32_ofInt hv
      have H := H.2.2.2.2.2.2.2.2.1 hx
      refine xt_tableIn (tgt := 263) dX11_codes_15 (by omega) (by omega) (by rw [hv]; rfl) (by decide) ?_
      refine xt_aload_n (j := 2) dX11_codes_263 rfl rfl ?_
      obtain ⟨b32, hb, H⟩ := H
      refine xt_getR dX11_codes_264 (flX11_189 rfl) ft_13_71 ho1.1 ho1.2 hb ?_
      refine xt_iload_n (j := 0) dX11_codes_267 rfl rfl ?_
      obtain ⟨ho33, H⟩ := H
      obtain ⟨hi, H⟩ := H
      refine xt_iald dX11_codes_268 ho33.1 ho33.2 hi ?_
      refine xt_iconst (v := 3) dX11_codes_269 (by decide) ?_
      refine xt_iand dX11_codes_270 ?_
      refine xt_aload_n (j := 2) dX11_codes_271 rfl rfl ?_
      obtain ⟨b34, hb, H⟩ := H
      refine xt_getR dX11_codes_272 (flX11_189 rfl) ft_13_71 ho1.1 ho1.2 hb ?_
      refine xt_iload_n (j := 0) dX11_codes_275 rfl rfl ?_
      obtain ⟨ho35, H⟩ := H
      obtain ⟨hi, H⟩ := H
      refine xt_iald dX11_codes_276 ho35.1 ho35.2 hi ?_
      refine xt_iconst (v := 2) dX11_codes_277 (by decide) ?_
      refine xt_ishr dX11_codes_278 ?_
      refine xt_iconst (v := 1) dX11_codes_279 (by decide) ?_
      refine xt_iand dX11_codes_280 ?_
      refine xt_ior dX11_codes_281 ?_
      refine xt_aload_n (j := 2) dX11_codes_282 rfl rfl ?_
      obtain ⟨b36, hb, H⟩ := H
      refine xt_getR dX11_codes_283 (flX11_189 rfl) ft_13_71 ho1.1 ho1.2 hb ?_
      refine xt_iload_n (j := 0) dX11_codes_286 rfl rfl ?_
      obtain ⟨ho37, H⟩ := H
      obtain ⟨hi, H⟩ := H
      refine xt_iald dX11_codes_287 ho37.1 ho37.2 hi ?_
      refine xt_iconst (v := 1) dX11_codes_288 (by decide) ?_
      refine xt_ishr dX11_codes_289 ?_
      refine xt_bipush (v := -4) dX11_codes_290 (by decide) ?_
      refine xt_iand dX11_codes_292 ?_
      refine xt_ior dX11_codes_293 ?_
      exact xt_ireturn dX11_codes_294 rfl H
theorem KX11_codes {h : Nat} {x0 : Nat} {x1 : Int32} {M : Mem} {Q : Option Value → Mem → Prop} (H : DX11_codes_0 h x0 x1 M Q) : E (h + 1) mdX11_codes [.ref x0, .int x1] M Q := E.of (by decide) (Nat.le_of_ble_eq_true rfl) (fun _ _ _ => trivial) (VX11_codes_0 H)
def DX11_usesIn_50 (h : Nat) (x3 : Int32) (M : Mem) (Q : Option Value → Mem → Prop) : Prop :=
  Q (some (.int x3)) M
set_option maxRecDepth 20000 in
set_option maxHeartbeats 2000000 in
theorem VX11_usesIn_50 {h : Nat} {x3 : Int32} {M : Mem} {Q : Option Value → Mem → Prop} (H : DX11_usesIn_50 h x3 M Q) : T (h + 1) mdX11_usesIn 50 [(3, .int x3)] [] M Q := by
  unfold DX11_usesIn_50 at H
  refine xt_iload_n (j := 0) dX11_usesIn_50 rfl rfl ?_
  exact xt_ireturn dX11_usesIn_51 rfl H
def DX11_usesIn_42 (h : Nat) (x0 : Nat) (x2 : Int32) (x4 : Int32) (s0 : Int32) (s1 : Int32) (M : Mem) (Q : Option Value → Mem → Prop) : Prop :=
  T (h + 1) mdX11_usesIn 5 [(0, .ref x0), (2, .int x2), (3, .int (s0 ||| s1)), (4, .int (x4 + 1))] [] M Q
set_option maxRecDepth 20000 in
set_option maxHeartbeats 2000000 in
theorem VX11_usesIn_42 {h : Nat} {x0 : Nat} {x2 : Int32} {x4 : Int32} {s0 : Int32} {s1 : Int32} {M : Mem} {Q : Option Value → Mem → Prop} (H : DX11_usesIn_42 h x0 x2 x4 s0 s1 M Q) : T (h + 1) mdX11_usesIn 42 [(0, .ref x0), (2, .int x2), (4, .int x4)] [.int s1, .int s0] M Q := by
  unfold DX11_usesIn_42 at H
  refine xt_ior dX11_usesIn_42 ?_
  refine xt_istore_n (lv' := [(3, .int (s0 ||| s1)), (0, .ref x0), (2, .int x2), (4, .int x4)]) dX11_usesIn_43 rfl (by decide) rfl ?_
  refine xt_iinc (j := 3) (v := x4 + 1) (lv' := [(4, .int (x4 + 1)), (3, .int (s0 ||| s1)), (0, .ref x0), (2, .int x2)]) dX11_usesIn_44 rfl (by rfl) (by decide) rfl ?_
  refine xt_goto (tgt := 5) dX11_usesIn_47 (by decide) ?_
  exact xt_sub (lv' := [(0, .ref x0), (2, .int x2), (3, .int (s0 ||| s1)), (4, .int (x4 + 1))]) [2, 3, 1, 0] rfl H
def DX11_usesIn_5 (h : Nat) (x0 : Nat) (x2 : Int32) (x3 : Int32) (x4 : Int32) (M : Mem) (Q : Option Value → Mem → Prop) : Prop :=
  (x2 = (-1) → DX11_usesIn_50 h x3 M Q) ∧
  (¬ (x2 = (-1)) → (x2 < x4 → DX11_usesIn_50 h x3 M Q) ∧
  (¬ (x2 < x4) → ok M x0 13 ∧ ∃ b2 : Nat, mR M x0 25 = some b2 ∧ ok M b2 21 ∧ vp_in x4 (mL M b2) ∧ (¬ (mAI M b2 (x4 : Int32).toNatClampNeg) = 1 → DX11_usesIn_42 h x0 x2 x4 x3 0 M Q) ∧
  ((mAI M b2 (x4 : Int32).toNatClampNeg) = 1 → ∃ b4 : Nat, mR M x0 26 = some b4 ∧ ok M b4 23 ∧ vp_in x4 (mL M b4) ∧ DX11_usesIn_42 h x0 x2 x4 x3 ((1 : Int32) <<< (((mAJ M b4 (x4 : Int32).toNatClampNeg : Int64).toInt32) &&& 31)) M Q)))
set_option maxRecDepth 20000 in
set_option maxHeartbeats 2000000 in
theorem VX11_usesIn_5 {h : Nat} {x0 : Nat} {x2 : Int32} {x3 : Int32} {x4 : Int32} {M : Mem} {Q : Option Value → Mem → Prop} (H : DX11_usesIn_5 h x0 x2 x3 x4 M Q) : T (h + 1) mdX11_usesIn 5 [(0, .ref x0), (2, .int x2), (3, .int x3), (4, .int x4)] [] M Q := by
  unfold DX11_usesIn_5 at H
  refine xt_iload_n (j := 1) dX11_usesIn_5 rfl rfl ?_
  refine xt_iconst (v := -1) dX11_usesIn_6 (by decide) ?_
  refine xt_icmp_eq (tgt := 50) dX11_usesIn_7 (by decide) (fun hc => ?_) (fun hc => ?_)
  · have H := H.1 hc
    exact xt_sub [2] rfl (VX11_usesIn_50 H)
  · have H := H.2 hc
    refine xt_iload (j := 3) dX11_usesIn_10 rfl ?_
    refine xt_iload_n (j := 1) dX11_usesIn_12 rfl rfl ?_
    refine xt_icmp_gt (tgt := 50) dX11_usesIn_13 (by decide) (fun hc => ?_) (fun hc => ?_)
    · have H := H.1 hc
      exact xt_sub [2] rfl (VX11_usesIn_50 H)
    · have H := H.2 hc
      refine xt_iload_n (j := 2) dX11_usesIn_16 rfl rfl ?_
      refine xt_aload_n (j := 0) dX11_usesIn_17 rfl rfl ?_
      obtain ⟨ho1, H⟩ := H
      obtain ⟨b2, hb, H⟩ := H
      refine xt_getR dX11_usesIn_18 (flX11_69 rfl) ft_13_25 ho1.1 ho1.2 hb ?_
      refine xt_iload (j := 3) dX11_usesIn_21 rfl ?_
      obtain ⟨ho3, H⟩ := H
      obtain ⟨hi, H⟩ := H
      refine xt_iald dX11_usesIn_23 ho3.1 ho3.2 hi ?_
      refine xt_iconst (v := 1) dX11_usesIn_24 (by decide) ?_
      refine xt_icmp_ne (tgt := 41) dX11_usesIn_25 (by decide) (fun hc => ?_) (fun hc => ?_)
      · have H := H.1 hc
        refine xt_iconst (v := 0) dX11_usesIn_41 (by decide) ?_
        exact xt_sub [0, 1, 3] rfl (VX11_usesIn_42 H)
      · have H := H.2 hc
        refine xt_iconst (v := 1) dX11_usesIn_28 (by decide) ?_
        refine xt_aload_n (j := 0) dX11_usesIn_29 rfl rfl ?_
        obtain ⟨b4, hb, H⟩ := H
        refine xt_getR dX11_usesIn_30 (flX11_72 rfl) ft_13_26 ho1.1 ho1.2 hb ?_
        refine xt_iload (j := 3) dX11_usesIn_33 rfl ?_
        obtain ⟨ho5, H⟩ := H
        obtain ⟨hi, H⟩ := H
        refine xt_lald dX11_usesIn_35 ho5.1 ho5.2 hi ?_
        refine xt_l2i dX11_usesIn_36 ?_
        refine xt_ishl dX11_usesIn_37 ?_
        refine xt_goto (tgt := 42) dX11_usesIn_38 (by decide) ?_
        exact xt_sub [0, 1, 3] rfl (VX11_usesIn_42 H)
def DX11_usesIn_0 (h : Nat) (x0 : Nat) (x1 : Int32) (x2 : Int32) (M : Mem) (Q : Option Value → Mem → Prop) : Prop :=
  T (h + 1) mdX11_usesIn 5 [(0, .ref x0), (2, .int x2), (3, .int 0), (4, .int x1)] [] M Q
set_option maxRecDepth 20000 in
set_option maxHeartbeats 2000000 in
theorem VX11_usesIn_0 {h : Nat} {x0 : Nat} {x1 : Int32} {x2 : Int32} {M : Mem} {Q : Option Value → Mem → Prop} (H : DX11_usesIn_0 h x0 x1 x2 M Q) : T (h + 1) mdX11_usesIn 0 [(0, .ref x0), (1, .int x1), (2, .int x2)] [] M Q := by
  unfold DX11_usesIn_0 at H
  refine xt_iconst (v := 0) dX11_usesIn_0 (by decide) ?_
  refine xt_istore_n (lv' := [(3, .int 0), (0, .ref x0), (1, .int x1), (2, .int x2)]) dX11_usesIn_1 rfl (by decide) rfl ?_
  refine xt_iload_n (j := 2) dX11_usesIn_2 rfl rfl ?_
  refine xt_istore (lv' := [(4, .int x1), (3, .int 0), (0, .ref x0), (1, .int x1), (2, .int x2)]) dX11_usesIn_3 (by decide) rfl ?_
  exact xt_sub (lv' := [(0, .ref x0), (2, .int x2), (3, .int 0), (4, .int x1)]) [2, 4, 1, 0] rfl H
theorem KX11_usesIn {h : Nat} {x0 : Nat} {x1 : Int32} {x2 : Int32} {M : Mem} {Q : Option Value → Mem → Prop} (H : DX11_usesIn_0 h x0 x1 x2 M Q) : E (h + 1) mdX11_usesIn [.ref x0, .int x1, .int x2] M Q := E.of (by decide) (Nat.le_of_ble_eq_true rfl) (fun _ _ _ => trivial) (VX11_usesIn_0 H)
def DX11_usesOf_0 (h : Nat) (x0 : Nat) (x1 : Int32) (M : Mem) (Q : Option Value → Mem → Prop) : Prop :=
  ok M x0 13 ∧ ∃ b2 : Nat, mR M x0 44 = some b2 ∧ ok M b2 21 ∧ vp_in x1 (mL M b2) ∧ ∃ b4 : Nat, mR M x0 45 = some b4 ∧ ok M b4 21 ∧ vp_in x1 (mL M b4) ∧ E h mdX11_usesIn [.ref x0, .int (mAI M b2 (x1 : Int32).toNatClampNeg), .int (mAI M b4 (x1 : Int32).toNatClampNeg)] M (fun r M6 => mE M M6 → ∃ r7 : Int32, r = some (.int r7) ∧ ∃ b8 : Nat, mR M6 x0 46 = some b8 ∧ ok M6 b8 21 ∧ vp_in x1 (mL M6 b8) ∧ ∃ b10 : Nat, mR M6 x0 47 = some b10 ∧ ok M6 b10 21 ∧ vp_in x1 (mL M6 b10) ∧ E h mdX11_usesIn [.ref x0, .int (mAI M6 b8 (x1 : Int32).toNatClampNeg), .int (mAI M6 b10 (x1 : Int32).toNatClampNeg)] M6 (fun r M12 => mE M6 M12 → ∃ r13 : Int32, r = some (.int r13) ∧ Q (some (.int (r7 ||| r13))) M12))
set_option maxRecDepth 20000 in
set_option maxHeartbeats 2000000 in
theorem VX11_usesOf_0 {h : Nat} {x0 : Nat} {x1 : Int32} {M : Mem} {Q : Option Value → Mem → Prop} (H : DX11_usesOf_0 h x0 x1 M Q) : T (h + 1) mdX11_usesOf 0 [(0, .ref x0), (1, .int x1)] [] M Q := by
  unfold DX11_usesOf_0 at H
  refine xt_aload_n (j := 0) dX11_usesOf_0 rfl rfl ?_
  refine xt_aload_n (j := 0) dX11_usesOf_1 rfl rfl ?_
  obtain ⟨ho1, H⟩ := H
  obtain ⟨b2, hb, H⟩ := H
  refine xt_getR dX11_usesOf_2 (flX11_114 rfl) ft_13_44 ho1.1 ho1.2 hb ?_
  refine xt_iload_n (j := 1) dX11_usesOf_5 rfl rfl ?_
  obtain ⟨ho3, H⟩ := H
  obtain ⟨hi, H⟩ := H
  refine xt_iald dX11_usesOf_6 ho3.1 ho3.2 hi ?_
  refine xt_aload_n (j := 0) dX11_usesOf_7 rfl rfl ?_
  obtain ⟨b4, hb, H⟩ := H
  refine xt_getR dX11_usesOf_8 (flX11_117 rfl) ft_13_45 ho1.1 ho1.2 hb ?_
  refine xt_iload_n (j := 1) dX11_usesOf_11 rfl rfl ?_
  obtain ⟨ho5, H⟩ := H
  obtain ⟨hi, H⟩ := H
  refine xt_iald dX11_usesOf_12 ho5.1 ho5.2 hi ?_
  refine xt_callV (h2 := h) (as := [.int (mAI M b2 (x1 : Int32).toNatClampNeg), .int (mAI M b4 (x1 : Int32).toNatClampNeg)]) (st := []) dX11_usesOf_13 (mlX11_700 rfl) rfl ho1.1 ⟨by rw [ho1.2]; rfl, by rw [ho1.2]; decide⟩ (by first | decide | (simp [Value.category]; done)) (Nat.le_refl _) H (fun r M6 HH hE => ?_)
  obtain ⟨r7, hr, H⟩ := HH hE
  subst hr
  have ho1 := ok_E ho1 hE
  show T _ _ _ _ [.int r7] _ _
  refine xt_aload_n (j := 0) dX11_usesOf_16 rfl rfl ?_
  refine xt_aload_n (j := 0) dX11_usesOf_17 rfl rfl ?_
  obtain ⟨b8, hb, H⟩ := H
  refine xt_getR dX11_usesOf_18 (flX11_120 rfl) ft_13_46 ho1.1 ho1.2 hb ?_
  refine xt_iload_n (j := 1) dX11_usesOf_21 rfl rfl ?_
  obtain ⟨ho9, H⟩ := H
  obtain ⟨hi, H⟩ := H
  refine xt_iald dX11_usesOf_22 ho9.1 ho9.2 hi ?_
  refine xt_aload_n (j := 0) dX11_usesOf_23 rfl rfl ?_
  obtain ⟨b10, hb, H⟩ := H
  refine xt_getR dX11_usesOf_24 (flX11_123 rfl) ft_13_47 ho1.1 ho1.2 hb ?_
  refine xt_iload_n (j := 1) dX11_usesOf_27 rfl rfl ?_
  obtain ⟨ho11, H⟩ := H
  obtain ⟨hi, H⟩ := H
  refine xt_iald dX11_usesOf_28 ho11.1 ho11.2 hi ?_
  refine xt_callV (h2 := h) (as := [.int (mAI M6 b8 (x1 : Int32).toNatClampNeg), .int (mAI M6 b10 (x1 : Int32).toNatClampNeg)]) (st := [.int r7]) dX11_usesOf_29 (mlX11_700 rfl) rfl ho1.1 ⟨by rw [ho1.2]; rfl, by rw [ho1.2]; decide⟩ (by first | decide | (simp [Value.category]; done)) (Nat.le_refl _) H (fun r M12 HH hE => ?_)
  obtain ⟨r13, hr, H⟩ := HH hE
  subst hr
  have ho1 := ok_E ho1 hE
  show T _ _ _ _ [.int r13, .int r7] _ _
  refine xt_ior dX11_usesOf_32 ?_
  exact xt_ireturn dX11_usesOf_33 rfl H
theorem KX11_usesOf {h : Nat} {x0 : Nat} {x1 : Int32} {M : Mem} {Q : Option Value → Mem → Prop} (H : DX11_usesOf_0 h x0 x1 M Q) : E (h + 1) mdX11_usesOf [.ref x0, .int x1] M Q := E.of (by decide) (Nat.le_of_ble_eq_true rfl) (fun _ _ _ => trivial) (VX11_usesOf_0 H)
def DX11_clashes_126 (h : Nat) (x0 : Nat) (x2 : Int32) (x3 : Int32) (x5 : Int32) (x6 : Int32) (x7 : Int32) (s0 : Int32) (M : Mem) (Q : Option Value → Mem → Prop) : Prop :=
  ok M x0 13 ∧ ∃ b2 : Nat, mR M x0 56 = some b2 ∧ ok M b2 21 ∧ vp_in x5 (mL M b2) ∧ T (h + 1) mdX11_clashes 15 [(0, .ref x0), (2, .int (x2 ||| x6)), (3, .int (x3 ||| x7)), (4, .int s0), (5, .int (mAI M b2 (x5 : Int32).toNatClampNeg))] [] M Q
set_option maxRecDepth 20000 in
set_option maxHeartbeats 2000000 in
theorem VX11_clashes_126 {h : Nat} {x0 : Nat} {x2 : Int32} {x3 : Int32} {x5 : Int32} {x6 : Int32} {x7 : Int32} {s0 : Int32} {M : Mem} {Q : Option Value → Mem → Prop} (H : DX11_clashes_126 h x0 x2 x3 x5 x6 x7 s0 M Q) : T (h + 1) mdX11_clashes 126 [(0, .ref x0), (2, .int x2), (3, .int x3), (5, .int x5), (6, .int x6), (7, .int x7)] [.int s0] M Q := by
  unfold DX11_clashes_126 at H
  refine xt_istore (lv' := [(4, .int s0), (0, .ref x0), (2, .int x2), (3, .int x3), (5, .int x5), (6, .int x6), (7, .int x7)]) dX11_clashes_126 (by decide) rfl ?_
  refine xt_iload_n (j := 2) dX11_clashes_128 rfl rfl ?_
  refine xt_iload (j := 5) dX11_clashes_129 rfl ?_
  refine xt_ior dX11_clashes_131 ?_
  refine xt_istore_n (lv' := [(2, .int (x2 ||| x6)), (4, .int s0), (0, .ref x0), (3, .int x3), (5, .int x5), (6, .int x6), (7, .int x7)]) dX11_clashes_132 rfl (by decide) rfl ?_
  refine xt_iload_n (j := 3) dX11_clashes_133 rfl rfl ?_
  refine xt_iload (j := 6) dX11_clashes_134 rfl ?_
  refine xt_ior dX11_clashes_136 ?_
  refine xt_istore_n (lv' := [(3, .int (x3 ||| x7)), (2, .int (x2 ||| x6)), (4, .int s0), (0, .ref x0), (5, .int x5), (6, .int x6), (7, .int x7)]) dX11_clashes_137 rfl (by decide) rfl ?_
  refine xt_aload_n (j := 3) dX11_clashes_138 rfl rfl ?_
  obtain ⟨ho1, H⟩ := H
  obtain ⟨b2, hb, H⟩ := H
  refine xt_getR dX11_clashes_139 (flX11_147 rfl) ft_13_56 ho1.1 ho1.2 hb ?_
  refine xt_iload (j := 4) dX11_clashes_142 rfl ?_
  obtain ⟨ho3, H⟩ := H
  obtain ⟨hi, H⟩ := H
  refine xt_iald dX11_clashes_144 ho3.1 ho3.2 hi ?_
  refine xt_istore (lv' := [(5, .int (mAI M b2 (x5 : Int32).toNatClampNeg)), (3, .int (x3 ||| x7)), (2, .int (x2 ||| x6)), (4, .int s0), (0, .ref x0), (6, .int x6), (7, .int x7)]) dX11_clashes_145 (by decide) rfl ?_
  refine xt_goto (tgt := 15) dX11_clashes_147 (by decide) ?_
  exact xt_sub (lv' := [(0, .ref x0), (2, .int (x2 ||| x6)), (3, .int (x3 ||| x7)), (4, .int s0), (5, .int (mAI M b2 (x5 : Int32).toNatClampNeg))]) [4, 2, 1, 3, 0] rfl H
def DX11_clashes_121 (h : Nat) (x0 : Nat) (x2 : Int32) (x3 : Int32) (x5 : Int32) (x6 : Int32) (x7 : Int32) (M : Mem) (Q : Option Value → Mem → Prop) : Prop :=
  DX11_clashes_126 h x0 x2 x3 x5 x6 x7 1 M Q
set_option maxRecDepth 20000 in
set_option maxHeartbeats 2000000 in
theorem VX11_clashes_121 {h : Nat} {x0 : Nat} {x2 : Int32} {x3 : Int32} {x5 : Int32} {x6 : Int32} {x7 : Int32} {M : Mem} {Q : Option Value → Mem → Prop} (H : DX11_clashes_121 h x0 x2 x3 x5 x6 x7 M Q) : T (h + 1) mdX11_clashes 121 [(0, .ref x0), (2, .int x2), (3, .int x3), (5, .int x5), (6, .int x6), (7, .int x7)] [] M Q := by
  unfold DX11_clashes_121 at H
  refine xt_iconst (v := 1) dX11_clashes_121 (by decide) ?_
  refine xt_goto (tgt := 126) dX11_clashes_122 (by decide) ?_
  exact xt_sub [0, 1, 2, 3, 4, 5] rfl (VX11_clashes_126 H)
def DX11_clashes_80 (h : Nat) (x0 : Nat) (x2 : Int32) (x3 : Int32) (x4 : Int32) (x5 : Int32) (x7 : Int32) (x8 : Int32) (s0 : Int32) (s1 : Int32) (M : Mem) (Q : Option Value → Mem → Prop) : Prop :=
  ok M x0 13 ∧ E h mdX11_usesOf [.ref x0, .int x8] M (fun r M2 => mE M M2 → ∃ r3 : Int32, r = some (.int r3) ∧ T (h + 1) mdX11_clashes 36 [(0, .ref x0), (2, .int x2), (3, .int x3), (4, .int x4), (5, .int x5), (6, .int (s0 ||| s1)), (7, .int (x7 ||| r3)), (8, .int (x8 + 1))] [] M2 Q)
set_option maxRecDepth 20000 in
set_option maxHeartbeats 2000000 in
theorem VX11_clashes_80 {h : Nat} {x0 : Nat} {x2 : Int32} {x3 : Int32} {x4 : Int32} {x5 : Int32} {x7 : Int32} {x8 : Int32} {s0 : Int32} {s1 : Int32} {M : Mem} {Q : Option Value → Mem → Prop} (H : DX11_clashes_80 h x0 x2 x3 x4 x5 x7 x8 s0 s1 M Q) : T (h + 1) mdX11_clashes 80 [(0, .ref x0), (2, .int x2), (3, .int x3), (4, .int x4), (5, .int x5), (7, .int x7), (8, .int x8)] [.int s1, .int s0] M Q := by
  unfold DX11_clashes_80 at H
  refine xt_ior dX11_clashes_80 ?_
  refine xt_istore (lv' := [(6, .int (s0 ||| s1)), (0, .ref x0), (2, .int x2), (3, .int x3), (4, .int x4), (5, .int x5), (7, .int x7), (8, .int x8)]) dX11_clashes_81 (by decide) rfl ?_
  refine xt_iload (j := 6) dX11_clashes_83 rfl ?_
  refine xt_aload_n (j := 1) dX11_clashes_85 rfl rfl ?_
  refine xt_iload (j := 7) dX11_clashes_86 rfl ?_
  obtain ⟨ho1, H⟩ := H
  refine xt_callV (h2 := h) (as := [.int x8]) (st := [.int x7]) dX11_clashes_88 (mlX11_703 rfl) rfl ho1.1 ⟨by rw [ho1.2]; rfl, by rw [ho1.2]; decide⟩ (by first | decide | (simp [Value.category]; done)) (Nat.le_refl _) H (fun r M2 HH hE => ?_)
  obtain ⟨r3, hr, H⟩ := HH hE
  subst hr
  have ho1 := ok_E ho1 hE
  show T _ _ _ _ [.int r3, .int x7] _ _
  refine xt_ior dX11_clashes_91 ?_
  refine xt_istore (lv' := [(7, .int (x7 ||| r3)), (6, .int (s0 ||| s1)), (0, .ref x0), (2, .int x2), (3, .int x3), (4, .int x4), (5, .int x5), (8, .int x8)]) dX11_clashes_92 (by decide) rfl ?_
  refine xt_iinc (j := 7) (v := x8 + 1) (lv' := [(8, .int (x8 + 1)), (7, .int (x7 ||| r3)), (6, .int (s0 ||| s1)), (0, .ref x0), (2, .int x2), (3, .int x3), (4, .int x4), (5, .int x5)]) dX11_clashes_94 rfl (by rfl) (by decide) rfl ?_
  refine xt_goto (tgt := 36) dX11_clashes_97 (by decide) ?_
  exact xt_sub (lv' := [(0, .ref x0), (2, .int x2), (3, .int x3), (4, .int x4), (5, .int x5), (6, .int (s0 ||| s1)), (7, .int (x7 ||| r3)), (8, .int (x8 + 1))]) [3, 4, 5, 6, 7, 2, 1, 0] rfl H
def DX11_clashes_36 (h : Nat) (x0 : Nat) (x2 : Int32) (x3 : Int32) (x4 : Int32) (x5 : Int32) (x6 : Int32) (x7 : Int32) (x8 : Int32) (M : Mem) (Q : Option Value → Mem → Prop) : Prop :=
  ok M x0 13 ∧ ∃ b2 : Nat, mR M x0 51 = some b2 ∧ ∃ b3 : Nat, mR M x0 55 = some b3 ∧ ok M b3 21 ∧ vp_in x5 (mL M b3) ∧ ok M b2 21 ∧ vp_in (mAI M b3 (x5 : Int32).toNatClampNeg) (mL M b2) ∧ ((mAI M b2 (mAI M b3 (x5 : Int32).toNatClampNeg : Int32).toNatClampNeg) ≤ x8 → (¬ x4 = 0 → DX11_clashes_121 h x0 x2 x3 x5 x6 x7 M Q) ∧
  (x4 = 0 → (¬ (x6 &&& (x2 ||| x3)) = 0 → DX11_clashes_121 h x0 x2 x3 x5 x6 x7 M Q) ∧
  ((x6 &&& (x2 ||| x3)) = 0 → ((x7 &&& x2) = 0 → DX11_clashes_126 h x0 x2 x3 x5 x6 x7 0 M Q) ∧
  (¬ ((x7 &&& x2) = 0) → DX11_clashes_121 h x0 x2 x3 x5 x6 x7 M Q)))) ∧
  (¬ ((mAI M b2 (mAI M b3 (x5 : Int32).toNatClampNeg : Int32).toNatClampNeg) ≤ x8) → ∃ b6 : Nat, mR M x0 38 = some b6 ∧ ok M b6 21 ∧ vp_in x8 (mL M b6) ∧ (¬ (mAI M b6 (x8 : Int32).toNatClampNeg) = 15 → DX11_clashes_80 h x0 x2 x3 x4 x5 x7 x8 x6 0 M Q) ∧
  ((mAI M b6 (x8 : Int32).toNatClampNeg) = 15 → ∃ b8 : Nat, mR M x0 40 = some b8 ∧ ok M b8 21 ∧ vp_in x8 (mL M b8) ∧ DX11_clashes_80 h x0 x2 x3 x4 x5 x7 x8 x6 ((1 : Int32) <<< ((mAI M b8 (x8 : Int32).toNatClampNeg) &&& 31)) M Q))
set_option maxRecDepth 20000 in
set_option maxHeartbeats 2000000 in
theorem VX11_clashes_36 {h : Nat} {x0 : Nat} {x2 : Int32} {x3 : Int32} {x4 : Int32} {x5 : Int32} {x6 : Int32} {x7 : Int32} {x8 : Int32} {M : Mem} {Q : Option Value → Mem → Prop} (H : DX11_clashes_36 h x0 x2 x3 x4 x5 x6 x7 x8 M Q) : T (h + 1) mdX11_clashes 36 [(0, .ref x0), (2, .int x2), (3, .int x3), (4, .int x4), (5, .int x5), (6, .int x6), (7, .int x7), (8, .int x8)] [] M Q := by
  unfold DX11_clashes_36 at H
  refine xt_iload (j := 7) dX11_clashes_36 rfl ?_
  refine xt_aload_n (j := 0) dX11_clashes_38 rfl rfl ?_
  obtain ⟨ho1, H⟩ := H
  obtain ⟨b2, hb, H⟩ := H
  refine xt_getR dX11_clashes_39 (flX11_135 rfl) ft_13_51 ho1.1 ho1.2 hb ?_
  refine xt_aload_n (j := 0) dX11_clashes_42 rfl rfl ?_
  obtain ⟨b3, hb, H⟩ := H
  refine xt_getR dX11_clashes_43 (flX11_144 rfl) ft_13_55 ho1.1 ho1.2 hb ?_
  refine xt_iload (j := 4) dX11_clashes_46 rfl ?_
  obtain ⟨ho4, H⟩ := H
  obtain ⟨hi, H⟩ := H
  refine xt_iald dX11_clashes_48 ho4.1 ho4.2 hi ?_
  obtain ⟨ho5, H⟩ := H
  obtain ⟨hi, H⟩ := H
  refine xt_iald dX11_clashes_49 ho5.1 ho5.2 hi ?_
  refine xt_icmp_ge (tgt := 100) dX11_clashes_50 (by decide) (fun hc => ?_) (fun hc => ?_)
  · have H := H.1 hc
    refine xt_iload (j := 3) dX11_clashes_100 rfl ?_
    refine xt_if_ne (tgt := 121) dX11_clashes_102 (by decide) (fun hc => ?_) (fun hc => ?_)
    · have H := H.1 hc
      exact xt_sub [0, 1, 2, 4, 5, 6] rfl (VX11_clashes_121 H)
    · have H := H.2 hc
      refine xt_iload (j := 5) dX11_clashes_105 rfl ?_
      refine xt_iload_n (j := 1) dX11_clashes_107 rfl rfl ?_
      refine xt_iload_n (j := 2) dX11_clashes_108 rfl rfl ?_
      refine xt_ior dX11_clashes_109 ?_
      refine xt_iand dX11_clashes_110 ?_
      refine xt_if_ne (tgt := 121) dX11_clashes_111 (by decide) (fun hc => ?_) (fun hc => ?_)
      · have H := H.1 hc
        exact xt_sub [0, 1, 2, 4, 5, 6] rfl (VX11_clashes_121 H)
      · have H := H.2 hc
        refine xt_iload (j := 6) dX11_clashes_114 rfl ?_
        refine xt_iload_n (j := 1) dX11_clashes_116 rfl rfl ?_
        refine xt_iand dX11_clashes_117 ?_
        refine xt_if_eq (tgt := 125) dX11_clashes_118 (by decide) (fun hc => ?_) (fun hc => ?_)
        · have H := H.1 hc
          refine xt_iconst (v := 0) dX11_clashes_125 (by decide) ?_
          exact xt_sub [0, 1, 2, 4, 5, 6] rfl (VX11_clashes_126 H)
        · have H := H.2 hc
          exact xt_sub [0, 1, 2, 4, 5, 6] rfl (VX11_clashes_121 H)
  · have H := H.2 hc
    refine xt_iload (j := 5) dX11_clashes_53 rfl ?_
    refine xt_aload_n (j := 0) dX11_clashes_55 rfl rfl ?_
    obtain ⟨b6, hb, H⟩ := H
    refine xt_getR dX11_clashes_56 (flX11_96 rfl) ft_13_38 ho1.1 ho1.2 hb ?_
    refine xt_iload (j := 7) dX11_clashes_59 rfl ?_
    obtain ⟨ho7, H⟩ := H
    obtain ⟨hi, H⟩ := H
    refine xt_iald dX11_clashes_61 ho7.1 ho7.2 hi ?_
    refine xt_bipush (v := 15) dX11_clashes_62 (by decide) ?_
    refine xt_icmp_ne (tgt := 79) dX11_clashes_64 (by decide) (fun hc => ?_) (fun hc => ?_)
    · have H := H.1 hc
      refine xt_iconst (v := 0) dX11_clashes_79 (by decide) ?_
      exact xt_sub [0, 1, 2, 3, 4, 6, 7] rfl (VX11_clashes_80 H)
    · have H := H.2 hc
      refine xt_iconst (v := 1) dX11_clashes_67 (by decide) ?_
      refine xt_aload_n (j := 0) dX11_clashes_68 rfl rfl ?_
      obtain ⟨b8, hb, H⟩ := H
      refine xt_getR dX11_clashes_69 (flX11_102 rfl) ft_13_40 ho1.1 ho1.2 hb ?_
      refine xt_iload (j := 7) dX11_clashes_72 rfl ?_
      obtain ⟨ho9, H⟩ := H
      obtain ⟨hi, H⟩ := H
      refine xt_iald dX11_clashes_74 ho9.1 ho9.2 hi ?_
      refine xt_ishl dX11_clashes_75 ?_
      refine xt_goto (tgt := 80) dX11_clashes_76 (by decide) ?_
      exact xt_sub [0, 1, 2, 3, 4, 6, 7] rfl (VX11_clashes_80 H)
def DX11_clashes_15 (h : Nat) (x0 : Nat) (x2 : Int32) (x3 : Int32) (x4 : Int32) (x5 : Int32) (M : Mem) (Q : Option Value → Mem → Prop) : Prop :=
  (x5 = (-1) → (x4 = 0 ∨ x4 = 1) ∧ Q (some (.int x4)) M) ∧
  (¬ (x5 = (-1)) → ok M x0 13 ∧ ∃ b2 : Nat, mR M x0 54 = some b2 ∧ ok M b2 21 ∧ vp_in x5 (mL M b2) ∧ T (h + 1) mdX11_clashes 36 [(0, .ref x0), (2, .int x2), (3, .int x3), (4, .int x4), (5, .int x5), (6, .int 0), (7, .int 0), (8, .int (mAI M b2 (x5 : Int32).toNatClampNeg))] [] M Q)
set_option maxRecDepth 20000 in
set_option maxHeartbeats 2000000 in
theorem VX11_clashes_15 {h : Nat} {x0 : Nat} {x2 : Int32} {x3 : Int32} {x4 : Int32} {x5 : Int32} {M : Mem} {Q : Option Value → Mem → Prop} (H : DX11_clashes_15 h x0 x2 x3 x4 x5 M Q) : T (h + 1) mdX11_clashes 15 [(0, .ref x0), (2, .int x2), (3, .int x3), (4, .int x4), (5, .int x5)] [] M Q := by
  unfold DX11_clashes_15 at H
  refine xt_iload (j := 4) dX11_clashes_15 rfl ?_
  refine xt_iconst (v := -1) dX11_clashes_17 (by decide) ?_
  refine xt_icmp_eq (tgt := 150) dX11_clashes_18 (by decide) (fun hc => ?_) (fun hc => ?_)
  · have H := H.1 hc
    refine xt_iload (j := 3) dX11_clashes_150 rfl ?_
    exact xt_zreturn dX11_clashes_152 rfl H.1 H.2
  · have H := H.2 hc
    refine xt_iconst (v := 0) dX11_clashes_21 (by decide) ?_
    refine xt_istore (lv' := [(6, .int 0), (0, .ref x0), (2, .int x2), (3, .int x3), (4, .int x4), (5, .int x5)]) dX11_clashes_22 (by decide) rfl ?_
    refine xt_iconst (v := 0) dX11_clashes_24 (by decide) ?_
    refine xt_istore (lv' := [(7, .int 0), (6, .int 0), (0, .ref x0), (2, .int x2), (3, .int x3), (4, .int x4), (5, .int x5)]) dX11_clashes_25 (by decide) rfl ?_
    refine xt_aload_n (j := 2) dX11_clashes_27 rfl rfl ?_
    obtain ⟨ho1, H⟩ := H
    obtain ⟨b2, hb, H⟩ := H
    refine xt_getR dX11_clashes_28 (flX11_141 rfl) ft_13_54 ho1.1 ho1.2 hb ?_
    refine xt_iload (j := 6) dX11_clashes_31 rfl ?_
    obtain ⟨ho3, H⟩ := H
    obtain ⟨hi, H⟩ := H
    refine xt_iald dX11_clashes_33 ho3.1 ho3.2 hi ?_
    refine xt_istore (lv' := [(8, .int (mAI M b2 (x5 : Int32).toNatClampNeg)), (7, .int 0), (6, .int 0), (0, .ref x0), (2, .int x2), (3, .int x3), (4, .int x4), (5, .int x5)]) dX11_clashes_34 (by decide) rfl ?_
    exact xt_sub (lv' := [(0, .ref x0), (2, .int x2), (3, .int x3), (4, .int x4), (5, .int x5), (6, .int 0), (7, .int 0), (8, .int (mAI M b2 (x5 : Int32).toNatClampNeg))]) [3, 4, 5, 6, 7, 2, 1, 0] rfl H
def DX11_clashes_0 (h : Nat) (x0 : Nat) (x1 : Int32) (M : Mem) (Q : Option Value → Mem → Prop) : Prop :=
  ok M x0 13 ∧ ∃ b2 : Nat, mR M x0 49 = some b2 ∧ ok M b2 21 ∧ vp_in x1 (mL M b2) ∧ T (h + 1) mdX11_clashes 15 [(0, .ref x0), (2, .int 0), (3, .int 0), (4, .int 0), (5, .int (mAI M b2 (x1 : Int32).toNatClampNeg))] [] M Q
set_option maxRecDepth 20000 in
set_option maxHeartbeats 2000000 in
theorem VX11_clashes_0 {h : Nat} {x0 : Nat} {x1 : Int32} {M : Mem} {Q : Option Value → Mem → Prop} (H : DX11_clashes_0 h x0 x1 M Q) : T (h + 1) mdX11_clashes 0 [(0, .ref x0), (1, .int x1)] [] M Q := by
  unfold DX11_clashes_0 at H
  refine xt_iconst (v := 0) dX11_clashes_0 (by decide) ?_
  refine xt_istore_n (lv' := [(2, .int 0), (0, .ref x0), (1, .int x1)]) dX11_clashes_1 rfl (by decide) rfl ?_
  refine xt_iconst (v := 0) dX11_clashes_2 (by decide) ?_
  refine xt_istore_n (lv' := [(3, .int 0), (2, .int 0), (0, .ref x0), (1, .int x1)]) dX11_clashes_3 rfl (by decide) rfl ?_
  refine xt_iconst (v := 0) dX11_clashes_4 (by decide) ?_
  refine xt_istore (lv' := [(4, .int 0), (3, .int 0), (2, .int 0), (0, .ref x0), (1, .int x1)]) dX11_clashes_5 (by decide) rfl ?_
  refine xt_aload_n (j := 3) dX11_clashes_7 rfl rfl ?_
  obtain ⟨ho1, H⟩ := H
  obtain ⟨b2, hb, H⟩ := H
  refine xt_getR dX11_clashes_8 (flX11_129 rfl) ft_13_49 ho1.1 ho1.2 hb ?_
  refine xt_iload_n (j := 4) dX11_clashes_11 rfl rfl ?_
  obtain ⟨ho3, H⟩ := H
  obtain ⟨hi, H⟩ := H
  refine xt_iald dX11_clashes_12 ho3.1 ho3.2 hi ?_
  refine xt_istore (lv' := [(5, .int (mAI M b2 (x1 : Int32).toNatClampNeg)), (4, .int 0), (3, .int 0), (2, .int 0), (0, .ref x0), (1, .int x1)]) dX11_clashes_13 (by decide) rfl ?_
  exact xt_sub (lv' := [(0, .ref x0), (2, .int 0), (3, .int 0), (4, .int 0), (5, .int (mAI M b2 (x1 : Int32).toNatClampNeg))]) [4, 3, 2, 1, 0] rfl H
theorem KX11_clashes {h : Nat} {x0 : Nat} {x1 : Int32} {M : Mem} {Q : Option Value → Mem → Prop} (H : DX11_clashes_0 h x0 x1 M Q) : E (h + 1) mdX11_clashes [.ref x0, .int x1] M Q := E.of (by decide) (Nat.le_of_ble_eq_true rfl) (fun _ _ _ => trivial) (VX11_clashes_0 H)
def DX11_lookBehind_119 (h : Nat) (M : Mem) (Q : Option Value → Mem → Prop) : Prop :=
  Q none M
set_option maxRecDepth 20000 in
set_option maxHeartbeats 2000000 in
theorem VX11_lookBehind_119 {h : Nat} {M : Mem} {Q : Option Value → Mem → Prop} (H : DX11_lookBehind_119 h  M Q) : T (h + 1) mdX11_lookBehind 119 [] [] M Q := by
  unfold DX11_lookBehind_119 at H
  exact xt_return dX11_lookBehind_119 rfl H
def DX11_lookBehind_113 (h : Nat) (x0 : Nat) (x1 : Int32) (M : Mem) (Q : Option Value → Mem → Prop) : Prop :=
  T (h + 1) mdX11_lookBehind 8 [(0, .ref x0), (1, .int (x1 + 1))] [] M Q
set_option maxRecDepth 20000 in
set_option maxHeartbeats 2000000 in
theorem VX11_lookBehind_113 {h : Nat} {x0 : Nat} {x1 : Int32} {M : Mem} {Q : Option Value → Mem → Prop} (H : DX11_lookBehind_113 h x0 x1 M Q) : T (h + 1) mdX11_lookBehind 113 [(0, .ref x0), (1, .int x1)] [] M Q := by
  unfold DX11_lookBehind_113 at H
  refine xt_iinc (j := 1) (v := x1 + 1) (lv' := [(1, .int (x1 + 1)), (0, .ref x0)]) dX11_lookBehind_113 rfl (by rfl) (by decide) rfl ?_
  refine xt_goto (tgt := 8) dX11_lookBehind_116 (by decide) ?_
  exact xt_sub (lv' := [(0, .ref x0), (1, .int (x1 + 1))]) [1, 0] rfl H
def DX11_lookBehind_82 (h : Nat) (x0 : Nat) (x1 : Int32) (M : Mem) (Q : Option Value → Mem → Prop) : Prop :=
  ok M x0 13 ∧ ∃ b2 : Nat, mR M x0 38 = some b2 ∧ ok M b2 21 ∧ vp_in x1 (mL M b2) ∧ (¬ (mAI M b2 (x1 : Int32).toNatClampNeg) = 16 → DX11_lookBehind_113 h x0 x1 M Q) ∧
  ((mAI M b2 (x1 : Int32).toNatClampNeg) = 16 → E h mdX11_clashes [.ref x0, .int x1] M (fun r M4 => mE M M4 → ∃ r5 : Int32, r = some (.int r5) ∧ (r5 = 0 → DX11_lookBehind_113 h x0 x1 M4 Q) ∧
  (¬ (r5 = 0) → ∃ b6 : Nat, mR M4 x0 39 = some b6 ∧ ok M4 b6 21 ∧ vp_in x1 (mL M4 b6) ∧ E h mdX11_fails [.ref x0, .int 8, .int (mAI M4 b6 (x1 : Int32).toNatClampNeg)] M4 (fun r M8 => mE M4 M8 → r = none ∧ DX11_lookBehind_113 h x0 x1 M8 Q))))
set_option maxRecDepth 20000 in
set_option maxHeartbeats 2000000 in
theorem VX11_lookBehind_82 {h : Nat} {x0 : Nat} {x1 : Int32} {M : Mem} {Q : Option Value → Mem → Prop} (H : DX11_lookBehind_82 h x0 x1 M Q) : T (h + 1) mdX11_lookBehind 82 [(0, .ref x0), (1, .int x1)] [] M Q := by
  unfold DX11_lookBehind_82 at H
  refine xt_aload_n (j := 0) dX11_lookBehind_82 rfl rfl ?_
  obtain ⟨ho1, H⟩ := H
  obtain ⟨b2, hb, H⟩ := H
  refine xt_getR dX11_lookBehind_83 (flX11_96 rfl) ft_13_38 ho1.1 ho1.2 hb ?_
  refine xt_iload_n (j := 1) dX11_lookBehind_86 rfl rfl ?_
  obtain ⟨ho3, H⟩ := H
  obtain ⟨hi, H⟩ := H
  refine xt_iald dX11_lookBehind_87 ho3.1 ho3.2 hi ?_
  refine xt_bipush (v := 16) dX11_lookBehind_88 (by decide) ?_
  refine xt_icmp_ne (tgt := 113) dX11_lookBehind_90 (by decide) (fun hc => ?_) (fun hc => ?_)
  · have H := H.1 hc
    exact xt_sub [0, 1] rfl (VX11_lookBehind_113 H)
  · have H := H.2 hc
    refine xt_aload_n (j := 0) dX11_lookBehind_93 rfl rfl ?_
    refine xt_iload_n (j := 1) dX11_lookBehind_94 rfl rfl ?_
    refine xt_callV (h2 := h) (as := [.int x1]) (st := []) dX11_lookBehind_95 (mlX11_706 rfl) rfl ho1.1 ⟨by rw [ho1.2]; rfl, by rw [ho1.2]; decide⟩ (by first | decide | (simp [Value.category]; done)) (Nat.le_refl _) H (fun r M4 HH hE => ?_)
    obtain ⟨r5, hr, H⟩ := HH hE
    subst hr
    have ho1 := ok_E ho1 hE
    show T _ _ _ _ [.int r5] _ _
    refine xt_if_eq (tgt := 113) dX11_lookBehind_98 (by decide) (fun hc => ?_) (fun hc => ?_)
    · have H := H.1 hc
      exact xt_sub [0, 1] rfl (VX11_lookBehind_113 H)
    · have H := H.2 hc
      refine xt_aload_n (j := 0) dX11_lookBehind_101 rfl rfl ?_
      refine xt_bipush (v := 8) dX11_lookBehind_102 (by decide) ?_
      refine xt_aload_n (j := 0) dX11_lookBehind_104 rfl rfl ?_
      obtain ⟨b6, hb, H⟩ := H
      refine xt_getR dX11_lookBehind_105 (flX11_99 rfl) ft_13_39 ho1.1 ho1.2 hb ?_
      refine xt_iload_n (j := 1) dX11_lookBehind_108 rfl rfl ?_
      obtain ⟨ho7, H⟩ := H
      obtain ⟨hi, H⟩ := H
      refine xt_iald dX11_lookBehind_109 ho7.1 ho7.2 hi ?_
      refine xt_callV (h2 := h) (as := [.int 8, .int (mAI M4 b6 (x1 : Int32).toNatClampNeg)]) (st := []) dX11_lookBehind_110 (mlX11_369 rfl) rfl ho1.1 ⟨by rw [ho1.2]; rfl, by rw [ho1.2]; decide⟩ (by first | decide | (simp [Value.category]; done)) (Nat.le_refl _) H (fun r M8 HH hE => ?_)
      obtain ⟨hr, H⟩ := HH hE
      subst hr
      have ho1 := ok_E ho1 hE
      show T _ _ _ _ [] _ _
      exact xt_sub [0, 1] rfl (VX11_lookBehind_113 H)
def DX11_lookBehind_8 (h : Nat) (x0 : Nat) (x1 : Int32) (M : Mem) (Q : Option Value → Mem → Prop) : Prop :=
  ok M x0 13 ∧ ∃ b2 : Nat, mR M x0 34 = some b2 ∧ ok M b2 21 ∧ vp_in (mI M x0 19) (mL M b2) ∧ (((40 * (mI M x0 19)) + (mAI M b2 (mI M x0 19 : Int32).toNatClampNeg)) ≤ x1 → DX11_lookBehind_119 h  M Q) ∧
  (¬ (((40 * (mI M x0 19)) + (mAI M b2 (mI M x0 19 : Int32).toNatClampNeg)) ≤ x1) → (¬ (mI M x0 6) = 0 → DX11_lookBehind_119 h  M Q) ∧
  ((mI M x0 6) = 0 → ∃ b4 : Nat, mR M x0 38 = some b4 ∧ ok M b4 21 ∧ vp_in x1 (mL M b4) ∧ (¬ (mAI M b4 (x1 : Int32).toNatClampNeg) = 5 → DX11_lookBehind_82 h x0 x1 M Q) ∧
  ((mAI M b4 (x1 : Int32).toNatClampNeg) = 5 → ∃ b6 : Nat, mR M x0 71 = some b6 ∧ ∃ b7 : Nat, mR M x0 64 = some b7 ∧ ∃ b8 : Nat, mR M x0 72 = some b8 ∧ ok M b8 21 ∧ vp_in x1 (mL M b8) ∧ ok M b7 21 ∧ vp_in (mAI M b8 (x1 : Int32).toNatClampNeg) (mL M b7) ∧ ok M b6 21 ∧ vp_in (mAI M b7 (mAI M b8 (x1 : Int32).toNatClampNeg : Int32).toNatClampNeg) (mL M b6) ∧ (((mAI M b6 (mAI M b7 (mAI M b8 (x1 : Int32).toNatClampNeg : Int32).toNatClampNeg : Int32).toNatClampNeg) &&& 1) = 0 → DX11_lookBehind_82 h x0 x1 M Q) ∧
  (¬ (((mAI M b6 (mAI M b7 (mAI M b8 (x1 : Int32).toNatClampNeg : Int32).toNatClampNeg : Int32).toNatClampNeg) &&& 1) = 0) → ∃ b12 : Nat, mR M x0 39 = some b12 ∧ ok M b12 21 ∧ vp_in x1 (mL M b12) ∧ E h mdX11_fails [.ref x0, .int 7, .int (mAI M b12 (x1 : Int32).toNatClampNeg)] M (fun r M14 => mE M M14 → r = none ∧ DX11_lookBehind_113 h x0 x1 M14 Q)))))
set_option maxRecDepth 20000 in
set_option maxHeartbeats 2000000 in
theorem VX11_lookBehind_8 {h : Nat} {x0 : Nat} {x1 : Int32} {M : Mem} {Q : Option Value → Mem → Prop} (H : DX11_lookBehind_8 h x0 x1 M Q) : T (h + 1) mdX11_lookBehind 8 [(0, .ref x0), (1, .int x1)] [] M Q := by
  unfold DX11_lookBehind_8 at H
  refine xt_iload_n (j := 1) dX11_lookBehind_8 rfl rfl ?_
  refine xt_bipush (v := 40) dX11_lookBehind_9 (by decide) ?_
  refine xt_aload_n (j := 0) dX11_lookBehind_11 rfl rfl ?_
  obtain ⟨ho1, H⟩ := H
  refine xt_getI dX11_lookBehind_12 (flX11_450 rfl) ft_13_19 ho1.1 ho1.2 ?_
  refine xt_imul dX11_lookBehind_15 ?_
  refine xt_aload_n (j := 0) dX11_lookBehind_16 rfl rfl ?_
  obtain ⟨b2, hb, H⟩ := H
  refine xt_getR dX11_lookBehind_17 (flX11_84 rfl) ft_13_34 ho1.1 ho1.2 hb ?_
  refine xt_aload_n (j := 0) dX11_lookBehind_20 rfl rfl ?_
  refine xt_getI dX11_lookBehind_21 (flX11_450 rfl) ft_13_19 ho1.1 ho1.2 ?_
  obtain ⟨ho3, H⟩ := H
  obtain ⟨hi, H⟩ := H
  refine xt_iald dX11_lookBehind_24 ho3.1 ho3.2 hi ?_
  refine xt_iadd dX11_lookBehind_25 ?_
  refine xt_icmp_ge (tgt := 119) dX11_lookBehind_26 (by decide) (fun hc => ?_) (fun hc => ?_)
  · have H := H.1 hc
    exact xt_sub [] rfl (VX11_lookBehind_119 H)
  · have H := H.2 hc
    refine xt_aload_n (j := 0) dX11_lookBehind_29 rfl rfl ?_
    refine xt_getI dX11_lookBehind_30 (flX11_360 rfl) ft_13_6 ho1.1 ho1.2 ?_
    refine xt_if_ne (tgt := 119) dX11_lookBehind_33 (by decide) (fun hc => ?_) (fun hc => ?_)
    · have H := H.1 hc
      exact xt_sub [] rfl (VX11_lookBehind_119 H)
    · have H := H.2 hc
      refine xt_aload_n (j := 0) dX11_lookBehind_36 rfl rfl ?_
      obtain ⟨b4, hb, H⟩ := H
      refine xt_getR dX11_lookBehind_37 (flX11_96 rfl) ft_13_38 ho1.1 ho1.2 hb ?_
      refine xt_iload_n (j := 1) dX11_lookBehind_40 rfl rfl ?_
      obtain ⟨ho5, H⟩ := H
      obtain ⟨hi, H⟩ := H
      refine xt_iald dX11_lookBehind_41 ho5.1 ho5.2 hi ?_
      refine xt_iconst (v := 5) dX11_lookBehind_42 (by decide) ?_
      refine xt_icmp_ne (tgt := 82) dX11_lookBehind_43 (by decide) (fun hc => ?_) (fun hc => ?_)
      · have H := H.1 hc
        exact xt_sub [0, 1] rfl (VX11_lookBehind_82 H)
      · have H := H.2 hc
        refine xt_aload_n (j := 0) dX11_lookBehind_46 rfl rfl ?_
        obtain ⟨b6, hb, H⟩ := H
        refine xt_getR dX11_lookBehind_47 (flX11_189 rfl) ft_13_71 ho1.1 ho1.2 hb ?_
        refine xt_aload_n (j := 0) dX11_lookBehind_50 rfl rfl ?_
        obtain ⟨b7, hb, H⟩ := H
        refine xt_getR dX11_lookBehind_51 (flX11_168 rfl) ft_13_64 ho1.1 ho1.2 hb ?_
        refine xt_aload_n (j := 0) dX11_lookBehind_54 rfl rfl ?_
        obtain ⟨b8, hb, H⟩ := H
        refine xt_getR dX11_lookBehind_55 (flX11_192 rfl) ft_13_72 ho1.1 ho1.2 hb ?_
        refine xt_iload_n (j := 1) dX11_lookBehind_58 rfl rfl ?_
        obtain ⟨ho9, H⟩ := H
        obtain ⟨hi, H⟩ := H
        refine xt_iald dX11_lookBehind_59 ho9.1 ho9.2 hi ?_
        obtain ⟨ho10, H⟩ := H
        obtain ⟨hi, H⟩ := H
        refine xt_iald dX11_lookBehind_60 ho10.1 ho10.2 hi ?_
        obtain ⟨ho11, H⟩ := H
        obtain ⟨hi, H⟩ := H
        refine xt_iald dX11_lookBehind_61 ho11.1 ho11.2 hi ?_
        refine xt_iconst (v := 1) dX11_lookBehind_62 (by decide) ?_
        refine xt_iand dX11_lookBehind_63 ?_
        refine xt_if_eq (tgt := 82) dX11_lookBehind_64 (by decide) (fun hc => ?_) (fun hc => ?_)
        · have H := H.1 hc
          exact xt_sub [0, 1] rfl (VX11_lookBehind_82 H)
        · have H := H.2 hc
          refine xt_aload_n (j := 0) dX11_lookBehind_67 rfl rfl ?_
          refine xt_bipush (v := 7) dX11_lookBehind_68 (by decide) ?_
          refine xt_aload_n (j := 0) dX11_lookBehind_70 rfl rfl ?_
          obtain ⟨b12, hb, H⟩ := H
          refine xt_getR dX11_lookBehind_71 (flX11_99 rfl) ft_13_39 ho1.1 ho1.2 hb ?_
          refine xt_iload_n (j := 1) dX11_lookBehind_74 rfl rfl ?_
          obtain ⟨ho13, H⟩ := H
          obtain ⟨hi, H⟩ := H
          refine xt_iald dX11_lookBehind_75 ho13.1 ho13.2 hi ?_
          refine xt_callV (h2 := h) (as := [.int 7, .int (mAI M b12 (x1 : Int32).toNatClampNeg)]) (st := []) dX11_lookBehind_76 (mlX11_369 rfl) rfl ho1.1 ⟨by rw [ho1.2]; rfl, by rw [ho1.2]; decide⟩ (by first | decide | (simp [Value.category]; done)) (Nat.le_refl _) H (fun r M14 HH hE => ?_)
          obtain ⟨hr, H⟩ := HH hE
          subst hr
          have ho1 := ok_E ho1 hE
          show T _ _ _ _ [] _ _
          refine xt_goto (tgt := 113) dX11_lookBehind_79 (by decide) ?_
          exact xt_sub [0, 1] rfl (VX11_lookBehind_113 H)
def DX11_lookBehind_0 (h : Nat) (x0 : Nat) (M : Mem) (Q : Option Value → Mem → Prop) : Prop :=
  ok M x0 13 ∧ T (h + 1) mdX11_lookBehind 8 [(0, .ref x0), (1, .int (40 * (mI M x0 19)))] [] M Q
set_option maxRecDepth 20000 in
set_option maxHeartbeats 2000000 in
theorem VX11_lookBehind_0 {h : Nat} {x0 : Nat} {M : Mem} {Q : Option Value → Mem → Prop} (H : DX11_lookBehind_0 h x0 M Q) : T (h + 1) mdX11_lookBehind 0 [(0, .ref x0)] [] M Q := by
  unfold DX11_lookBehind_0 at H
  refine xt_bipush (v := 40) dX11_lookBehind_0 (by decide) ?_
  refine xt_aload_n (j := 0) dX11_lookBehind_2 rfl rfl ?_
  obtain ⟨ho1, H⟩ := H
  refine xt_getI dX11_lookBehind_3 (flX11_450 rfl) ft_13_19 ho1.1 ho1.2 ?_
  refine xt_imul dX11_lookBehind_6 ?_
  refine xt_istore_n (lv' := [(1, .int (40 * (mI M x0 19))), (0, .ref x0)]) dX11_lookBehind_7 rfl (by decide) rfl ?_
  exact xt_sub (lv' := [(0, .ref x0), (1, .int (40 * (mI M x0 19)))]) [1, 0] rfl H
theorem KX11_lookBehind {h : Nat} {x0 : Nat} {M : Mem} {Q : Option Value → Mem → Prop} (H : DX11_lookBehind_0 h x0 M Q) : E (h + 1) mdX11_lookBehind [.ref x0] M Q := E.of (by decide) (Nat.le_of_ble_eq_true rfl) (fun _ _ _ => trivial) (VX11_lookBehind_0 H)
def DX11_compile_205 (h : Nat) (x0 : Nat) (M : Mem) (Q : Option Value → Mem → Prop) : Prop :=
  ok M x0 13 ∧ ((mI M x0 6) ≤ 0 → ∀ M2 : Mem, M2 = wI M x0 18 ((mI M x0 18) + 1) →
  Q (some (.int ((mI M2 x0 18) - 1))) M2) ∧
  (¬ ((mI M x0 6) ≤ 0) → Q (some (.int ((-10) - (mI M x0 7)))) M)
set_option maxRecDepth 20000 in
set_option maxHeartbeats 2000000 in
theorem VX11_compile_205 {h : Nat} {x0 : Nat} {M : Mem} {Q : Option Value → Mem → Prop} (H : DX11_compile_205 h x0 M Q) : T (h + 1) mdX11_compile 205 [(0, .ref x0)] [] M Q := by
  unfold DX11_compile_205 at H
  refine xt_aload_n (j := 0) dX11_compile_205 rfl rfl ?_
  obtain ⟨ho1, H⟩ := H
  refine xt_getI dX11_compile_206 (flX11_360 rfl) ft_13_6 ho1.1 ho1.2 ?_
  refine xt_if_le (tgt := 220) dX11_compile_209 (by decide) (fun hc => ?_) (fun hc => ?_)
  · have H := H.1 hc
    refine xt_aload_n (j := 0) dX11_compile_220 rfl rfl ?_
    refine xt_dup dX11_compile_221 rfl ?_
    refine xt_getI dX11_compile_222 (flX11_709 rfl) ft_13_18 ho1.1 ho1.2 ?_
    refine xt_iconst (v := 1) dX11_compile_225 (by decide) ?_
    refine xt_iadd dX11_compile_226 ?_
    obtain ⟨M2, eM2⟩ : ∃ z, z = wI M x0 18 ((mI M x0 18) + 1) := ⟨_, rfl⟩
    have H := H _ eM2
    refine xt_putI dX11_compile_227 (flX11_709 rfl) ty_13_18 rfl ho1.1 ho1.2 ?_
    have ho1 : ok M2 x0 13 := by rw [eM2]; exact ho1
    rw [← eM2]
    refine xt_aload_n (j := 0) dX11_compile_230 rfl rfl ?_
    refine xt_getI dX11_compile_231 (flX11_709 rfl) ft_13_18 ho1.1 ho1.2 ?_
    refine xt_iconst (v := 1) dX11_compile_234 (by decide) ?_
    refine xt_isub dX11_compile_235 ?_
    exact xt_ireturn dX11_compile_236 rfl H
  · have H := H.2 hc
    refine xt_bipush (v := -10) dX11_compile_212 (by decide) ?_
    refine xt_aload_n (j := 0) dX11_compile_214 rfl rfl ?_
    refine xt_getI dX11_compile_215 (flX11_363 rfl) ft_13_7 ho1.1 ho1.2 ?_
    refine xt_isub dX11_compile_218 ?_
    exact xt_ireturn dX11_compile_219 rfl H
def DX11_compile_188 (h : Nat) (x0 : Nat) (s0 : Int32) (M : Mem) (Q : Option Value → Mem → Prop) : Prop :=
  ok M x0 13 ∧ (¬ (mI M x0 6) = 0 → DX11_compile_205 h x0 M Q) ∧
  ((mI M x0 6) = 0 → E h mdX11_build [.ref x0, .int s0] M (fun r M2 => mE M M2 → r = none ∧ E h mdX11_lookBehind [.ref x0] M2 (fun r M3 => mE M2 M3 → r = none ∧ DX11_compile_205 h x0 M3 Q)))
set_option maxRecDepth 20000 in
set_option maxHeartbeats 2000000 in
theorem VX11_compile_188 {h : Nat} {x0 : Nat} {s0 : Int32} {M : Mem} {Q : Option Value → Mem → Prop} (H : DX11_compile_188 h x0 s0 M Q) : T (h + 1) mdX11_compile 188 [(0, .ref x0)] [.int s0] M Q := by
  unfold DX11_compile_188 at H
  refine xt_istore_n (lv' := [(1, .int s0), (0, .ref x0)]) dX11_compile_188 rfl (by decide) rfl ?_
  refine xt_aload_n (j := 1) dX11_compile_189 rfl rfl ?_
  obtain ⟨ho1, H⟩ := H
  refine xt_getI dX11_compile_190 (flX11_360 rfl) ft_13_6 ho1.1 ho1.2 ?_
  refine xt_if_ne (tgt := 205) dX11_compile_193 (by decide) (fun hc => ?_) (fun hc => ?_)
  · have H := H.1 hc
    exact xt_sub [1] rfl (VX11_compile_205 H)
  · have H := H.2 hc
    refine xt_aload_n (j := 1) dX11_compile_196 rfl rfl ?_
    refine xt_iload_n (j := 0) dX11_compile_197 rfl rfl ?_
    refine xt_callV (h2 := h) (as := [.int s0]) (st := []) dX11_compile_198 (mlX11_721 rfl) rfl ho1.1 ⟨by rw [ho1.2]; rfl, by rw [ho1.2]; decide⟩ (by first | decide | (simp [Value.category]; done)) (Nat.le_refl _) H (fun r M2 HH hE => ?_)
    obtain ⟨hr, H⟩ := HH hE
    subst hr
    have ho1 := ok_E ho1 hE
    show T _ _ _ _ [] _ _
    refine xt_aload_n (j := 1) dX11_compile_201 rfl rfl ?_
    refine xt_callV (h2 := h) (as := []) (st := []) dX11_compile_202 (mlX11_724 rfl) rfl ho1.1 ⟨by rw [ho1.2]; rfl, by rw [ho1.2]; decide⟩ (by first | decide | (simp [Value.category]; done)) (Nat.le_refl _) H (fun r M3 HH hE => ?_)
    obtain ⟨hr, H⟩ := HH hE
    subst hr
    have ho1 := ok_E ho1 hE
    show T _ _ _ _ [] _ _
    exact xt_sub [1] rfl (VX11_compile_205 H)
def DX11_compile_169 (h : Nat) (x0 : Nat) (M : Mem) (Q : Option Value → Mem → Prop) : Prop :=
  ok M x0 13 ∧ E h mdX11_readTold [.ref x0] M (fun r M2 => mE M M2 → r = none ∧ (¬ (mI M2 x0 6) = 0 → DX11_compile_188 h x0 (-1) M2 Q) ∧
  ((mI M2 x0 6) = 0 → E h mdX11_readParts [.ref x0] M2 (fun r M3 => mE M2 M3 → ∃ r4 : Int32, r = some (.int r4) ∧ DX11_compile_188 h x0 r4 M3 Q)))
set_option maxRecDepth 20000 in
set_option maxHeartbeats 2000000 in
theorem VX11_compile_169 {h : Nat} {x0 : Nat} {M : Mem} {Q : Option Value → Mem → Prop} (H : DX11_compile_169 h x0 M Q) : T (h + 1) mdX11_compile 169 [(0, .ref x0)] [] M Q := by
  unfold DX11_compile_169 at H
  refine xt_aload_n (j := 0) dX11_compile_169 rfl rfl ?_
  obtain ⟨ho1, H⟩ := H
  refine xt_callV (h2 := h) (as := []) (st := []) dX11_compile_170 (mlX11_715 rfl) rfl ho1.1 ⟨by rw [ho1.2]; rfl, by rw [ho1.2]; decide⟩ (by first | decide | (simp [Value.category]; done)) (Nat.le_refl _) H (fun r M2 HH hE => ?_)
  obtain ⟨hr, H⟩ := HH hE
  subst hr
  have ho1 := ok_E ho1 hE
  show T _ _ _ _ [] _ _
  refine xt_aload_n (j := 0) dX11_compile_173 rfl rfl ?_
  refine xt_getI dX11_compile_174 (flX11_360 rfl) ft_13_6 ho1.1 ho1.2 ?_
  refine xt_if_ne (tgt := 187) dX11_compile_177 (by decide) (fun hc => ?_) (fun hc => ?_)
  · have H := H.1 hc
    refine xt_iconst (v := -1) dX11_compile_187 (by decide) ?_
    exact xt_sub [0] rfl (VX11_compile_188 H)
  · have H := H.2 hc
    refine xt_aload_n (j := 0) dX11_compile_180 rfl rfl ?_
    refine xt_callV (h2 := h) (as := []) (st := []) dX11_compile_181 (mlX11_718 rfl) rfl ho1.1 ⟨by rw [ho1.2]; rfl, by rw [ho1.2]; decide⟩ (by first | decide | (simp [Value.category]; done)) (Nat.le_refl _) H (fun r M3 HH hE => ?_)
    obtain ⟨r4, hr, H⟩ := HH hE
    subst hr
    have ho1 := ok_E ho1 hE
    show T _ _ _ _ [.int r4] _ _
    refine xt_goto (tgt := 188) dX11_compile_184 (by decide) ?_
    exact xt_sub [0] rfl (VX11_compile_188 H)
def DX11_compile_0 (h : Nat) (x0 : Nat) (M : Mem) (Q : Option Value → Mem → Prop) : Prop :=
  ok M x0 13 ∧ (¬ (mI M x0 18) = 4 → ∀ M2 : Mem, M2 = wI M x0 19 (mI M x0 18) →
  ∀ M3 : Mem, M3 = wI M2 x0 6 0 →
  ∃ b4 : Nat, mR M3 x0 8 = some b4 ∧ ok M3 b4 21 ∧ vp_in (mI M3 x0 19) (mL M3 b4) ∧ ∀ M6 : Mem, M6 = wAI M3 b4 (mI M3 x0 19 : Int32).toNatClampNeg 0 →
  ∃ b7 : Nat, mR M6 x0 9 = some b7 ∧ ok M6 b7 21 ∧ vp_in (mI M6 x0 19) (mL M6 b7) ∧ ∀ M9 : Mem, M9 = wAI M6 b7 (mI M6 x0 19 : Int32).toNatClampNeg 0 →
  ∃ b10 : Nat, mR M9 x0 10 = some b10 ∧ ok M9 b10 21 ∧ vp_in (mI M9 x0 19) (mL M9 b10) ∧ ∀ M12 : Mem, M12 = wAI M9 b10 (mI M9 x0 19 : Int32).toNatClampNeg 0 →
  ∃ b13 : Nat, mR M12 x0 20 = some b13 ∧ ok M12 b13 21 ∧ vp_in (mI M12 x0 19) (mL M12 b13) ∧ ∀ M15 : Mem, M15 = wAI M12 b13 (mI M12 x0 19 : Int32).toNatClampNeg 0 →
  ∃ b16 : Nat, mR M15 x0 24 = some b16 ∧ ok M15 b16 21 ∧ vp_in (mI M15 x0 19) (mL M15 b16) ∧ ∀ M18 : Mem, M18 = wAI M15 b16 (mI M15 x0 19 : Int32).toNatClampNeg 0 →
  ∃ b19 : Nat, mR M18 x0 34 = some b19 ∧ ok M18 b19 21 ∧ vp_in (mI M18 x0 19) (mL M18 b19) ∧ ∀ M21 : Mem, M21 = wAI M18 b19 (mI M18 x0 19 : Int32).toNatClampNeg 0 →
  ∃ b22 : Nat, mR M21 x0 35 = some b22 ∧ ok M21 b22 21 ∧ vp_in (mI M21 x0 19) (mL M21 b22) ∧ ∀ M24 : Mem, M24 = wAI M21 b22 (mI M21 x0 19 : Int32).toNatClampNeg 0 →
  ∃ b25 : Nat, mR M24 x0 36 = some b25 ∧ ok M24 b25 21 ∧ vp_in (mI M24 x0 19) (mL M24 b25) ∧ ∀ M27 : Mem, M27 = wAI M24 b25 (mI M24 x0 19 : Int32).toNatClampNeg 0 →
  ∃ b28 : Nat, mR M27 x0 37 = some b28 ∧ ok M27 b28 21 ∧ vp_in (mI M27 x0 19) (mL M27 b28) ∧ ∀ M30 : Mem, M30 = wAI M27 b28 (mI M27 x0 19 : Int32).toNatClampNeg 0 →
  ∃ b31 : Nat, mR M30 x0 61 = some b31 ∧ ok M30 b31 21 ∧ vp_in (mI M30 x0 19) (mL M30 b31) ∧ ∀ M33 : Mem, M33 = wAI M30 b31 (mI M30 x0 19 : Int32).toNatClampNeg 0 →
  ∃ b34 : Nat, mR M33 x0 114 = some b34 ∧ ok M33 b34 21 ∧ vp_in (mI M33 x0 19) (mL M33 b34) ∧ ∀ M36 : Mem, M36 = wAI M33 b34 (mI M33 x0 19 : Int32).toNatClampNeg 0 →
  E h mdX11_cut [.ref x0] M36 (fun r M37 => mE M36 M37 → r = none ∧ ∀ M38 : Mem, M38 = wI M37 x0 1 0 →
  ∀ M39 : Mem, M39 = wI M38 x0 5 0 →
  ∃ b40 : Nat, mR M39 x0 2 = some b40 ∧ ok M39 b40 21 ∧ vp_in 0 (mL M39 b40) ∧ (¬ (mAI M39 b40 (0 : Int32).toNatClampNeg) = 4 → DX11_compile_169 h x0 M39 Q) ∧
  ((mAI M39 b40 (0 : Int32).toNatClampNeg) = 4 → ∃ b42 : Nat, mR M39 x0 3 = some b42 ∧ ok M39 b42 21 ∧ vp_in 0 (mL M39 b42) ∧ E h mdX11_fails [.ref x0, .int 1, .int (mAI M39 b42 (0 : Int32).toNatClampNeg)] M39 (fun r M44 => mE M39 M44 → r = none ∧ DX11_compile_169 h x0 M44 Q)))) ∧
  ((mI M x0 18) = 4 → Q (some (.int (-3))) M)
set_option maxRecDepth 20000 in
set_option maxHeartbeats 2000000 in
theorem VX11_compile_0 {h : Nat} {x0 : Nat} {M : Mem} {Q : Option Value → Mem → Prop} (H : DX11_compile_0 h x0 M Q) : T (h + 1) mdX11_compile 0 [(0, .ref x0)] [] M Q := by
  unfold DX11_compile_0 at H
  refine xt_aload_n (j := 0) dX11_compile_0 rfl rfl ?_
  obtain ⟨ho1, H⟩ := H
  refine xt_getI dX11_compile_1 (flX11_709 rfl) ft_13_18 ho1.1 ho1.2 ?_
  refine xt_iconst (v := 4) dX11_compile_4 (by decide) ?_
  refine xt_icmp_ne (tgt := 11) dX11_compile_5 (by decide) (fun hc => ?_) (fun hc => ?_)
  · have H := H.1 hc
    refine xt_aload_n (j := 0) dX11_compile_11 rfl rfl ?_
    refine xt_aload_n (j := 0) dX11_compile_12 rfl rfl ?_
    refine xt_getI dX11_compile_13 (flX11_709 rfl) ft_13_18 ho1.1 ho1.2 ?_
    obtain ⟨M2, eM2⟩ : ∃ z, z = wI M x0 19 (mI M x0 18) := ⟨_, rfl⟩
    have H := H _ eM2
    refine xt_putI dX11_compile_16 (flX11_450 rfl) ty_13_19 rfl ho1.1 ho1.2 ?_
    have ho1 : ok M2 x0 13 := by rw [eM2]; exact ho1
    rw [← eM2]
    refine xt_aload_n (j := 0) dX11_compile_19 rfl rfl ?_
    refine xt_iconst (v := 0) dX11_compile_20 (by decide) ?_
    obtain ⟨M3, eM3⟩ : ∃ z, z = wI M2 x0 6 0 := ⟨_, rfl⟩
    have H := H _ eM3
    refine xt_putI dX11_compile_21 (flX11_360 rfl) ty_13_6 rfl ho1.1 ho1.2 ?_
    have ho1 : ok M3 x0 13 := by rw [eM3]; exact ho1
    rw [← eM3]
    refine xt_aload_n (j := 0) dX11_compile_24 rfl rfl ?_
    obtain ⟨b4, hb, H⟩ := H
    refine xt_getR dX11_compile_25 (flX11_23 rfl) ft_13_8 ho1.1 ho1.2 hb ?_
    refine xt_aload_n (j := 0) dX11_compile_28 rfl rfl ?_
    refine xt_getI dX11_compile_29 (flX11_450 rfl) ft_13_19 ho1.1 ho1.2 ?_
    refine xt_iconst (v := 0) dX11_compile_32 (by decide) ?_
    obtain ⟨ho5, H⟩ := H
    obtain ⟨hi, H⟩ := H
    obtain ⟨M6, eM6⟩ : ∃ z, z = wAI M3 b4 (mI M3 x0 19 : Int32).toNatClampNeg 0 := ⟨_, rfl⟩
    have H := H _ eM6
    refine xt_iast dX11_compile_33 ho5.1 ho5.2 hi ?_
    have ho1 : ok M6 x0 13 := by rw [eM6]; exact ho1
    rw [← eM6]
    refine xt_aload_n (j := 0) dX11_compile_34 rfl rfl ?_
    obtain ⟨b7, hb, H⟩ := H
    refine xt_getR dX11_compile_35 (flX11_26 rfl) ft_13_9 ho1.1 ho1.2 hb ?_
    refine xt_aload_n (j := 0) dX11_compile_38 rfl rfl ?_
    refine xt_getI dX11_compile_39 (flX11_450 rfl) ft_13_19 ho1.1 ho1.2 ?_
    refine xt_iconst (v := 0) dX11_compile_42 (by decide) ?_
    obtain ⟨ho8, H⟩ := H
    obtain ⟨hi, H⟩ := H
    obtain ⟨M9, eM9⟩ : ∃ z, z = wAI M6 b7 (mI M6 x0 19 : Int32).toNatClampNeg 0 := ⟨_, rfl⟩
    have H := H _ eM9
    refine xt_iast dX11_compile_43 ho8.1 ho8.2 hi ?_
    have ho1 : ok M9 x0 13 := by rw [eM9]; exact ho1
    rw [← eM9]
    refine xt_aload_n (j := 0) dX11_compile_44 rfl rfl ?_
    obtain ⟨b10, hb, H⟩ := H
    refine xt_getR dX11_compile_45 (flX11_29 rfl) ft_13_10 ho1.1 ho1.2 hb ?_
    refine xt_aload_n (j := 0) dX11_compile_48 rfl rfl ?_
    refine xt_getI dX11_compile_49 (flX11_450 rfl) ft_13_19 ho1.1 ho1.2 ?_
    refine xt_iconst (v := 0) dX11_compile_52 (by decide) ?_
    obtain ⟨ho11, H⟩ := H
    obtain ⟨hi, H⟩ := H
    obtain ⟨M12, eM12⟩ : ∃ z, z = wAI M9 b10 (mI M9 x0 19 : Int32).toNatClampNeg 0 := ⟨_, rfl⟩
    have H := H _ eM12
    refine xt_iast dX11_compile_53 ho11.1 ho11.2 hi ?_
    have ho1 : ok M12 x0 13 := by rw [eM12]; exact ho1
    rw [← eM12]
    refine xt_aload_n (j := 0) dX11_compile_54 rfl rfl ?_
    obtain ⟨b13, hb, H⟩ := H
    refine xt_getR dX11_compile_55 (flX11_54 rfl) ft_13_20 ho1.1 ho1.2 hb ?_
    refine xt_aload_n (j := 0) dX11_compile_58 rfl rfl ?_
    refine xt_getI dX11_compile_59 (flX11_450 rfl) ft_13_19 ho1.1 ho1.2 ?_
    refine xt_iconst (v := 0) dX11_compile_62 (by decide) ?_
    obtain ⟨ho14, H⟩ := H
    obtain ⟨hi, H⟩ := H
    obtain ⟨M15, eM15⟩ : ∃ z, z = wAI M12 b13 (mI M12 x0 19 : Int32).toNatClampNeg 0 := ⟨_, rfl⟩
    have H := H _ eM15
    refine xt_iast dX11_compile_63 ho14.1 ho14.2 hi ?_
    have ho1 : ok M15 x0 13 := by rw [eM15]; exact ho1
    rw [← eM15]
    refine xt_aload_n (j := 0) dX11_compile_64 rfl rfl ?_
    obtain ⟨b16, hb, H⟩ := H
    refine xt_getR dX11_compile_65 (flX11_66 rfl) ft_13_24 ho1.1 ho1.2 hb ?_
    refine xt_aload_n (j := 0) dX11_compile_68 rfl rfl ?_
    refine xt_getI dX11_compile_69 (flX11_450 rfl) ft_13_19 ho1.1 ho1.2 ?_
    refine xt_iconst (v := 0) dX11_compile_72 (by decide) ?_
    obtain ⟨ho17, H⟩ := H
    obtain ⟨hi, H⟩ := H
    obtain ⟨M18, eM18⟩ : ∃ z, z = wAI M15 b16 (mI M15 x0 19 : Int32).toNatClampNeg 0 := ⟨_, rfl⟩
    have H := H _ eM18
    refine xt_iast dX11_compile_73 ho17.1 ho17.2 hi ?_
    have ho1 : ok M18 x0 13 := by rw [eM18]; exact ho1
    rw [← eM18]
    refine xt_aload_n (j := 0) dX11_compile_74 rfl rfl ?_
    obtain ⟨b19, hb, H⟩ := H
    refine xt_getR dX11_compile_75 (flX11_84 rfl) ft_13_34 ho1.1 ho1.2 hb ?_
    refine xt_aload_n (j := 0) dX11_compile_78 rfl rfl ?_
    refine xt_getI dX11_compile_79 (flX11_450 rfl) ft_13_19 ho1.1 ho1.2 ?_
    refine xt_iconst (v := 0) dX11_compile_82 (by decide) ?_
    obtain ⟨ho20, H⟩ := H
    obtain ⟨hi, H⟩ := H
    obtain ⟨M21, eM21⟩ : ∃ z, z = wAI M18 b19 (mI M18 x0 19 : Int32).toNatClampNeg 0 := ⟨_, rfl⟩
    have H := H _ eM21
    refine xt_iast dX11_compile_83 ho20.1 ho20.2 hi ?_
    have ho1 : ok M21 x0 13 := by rw [eM21]; exact ho1
    rw [← eM21]
    refine xt_aload_n (j := 0) dX11_compile_84 rfl rfl ?_
    obtain ⟨b22, hb, H⟩ := H
    refine xt_getR dX11_compile_85 (flX11_87 rfl) ft_13_35 ho1.1 ho1.2 hb ?_
    refine xt_aload_n (j := 0) dX11_compile_88 rfl rfl ?_
    refine xt_getI dX11_compile_89 (flX11_450 rfl) ft_13_19 ho1.1 ho1.2 ?_
    refine xt_iconst (v := 0) dX11_compile_92 (by decide) ?_
    obtain ⟨ho23, H⟩ := H
    obtain ⟨hi, H⟩ := H
    obtain ⟨M24, eM24⟩ : ∃ z, z = wAI M21 b22 (mI M21 x0 19 : Int32).toNatClampNeg 0 := ⟨_, rfl⟩
    have H := H _ eM24
    refine xt_iast dX11_compile_93 ho23.1 ho23.2 hi ?_
    have ho1 : ok M24 x0 13 := by rw [eM24]; exact ho1
    rw [← eM24]
    refine xt_aload_n (j := 0) dX11_compile_94 rfl rfl ?_
    obtain ⟨b25, hb, H⟩ := H
    refine xt_getR dX11_compile_95 (flX11_90 rfl) ft_13_36 ho1.1 ho1.2 hb ?_
    refine xt_aload_n (j := 0) dX11_compile_98 rfl rfl ?_
    refine xt_getI dX11_compile_99 (flX11_450 rfl) ft_13_19 ho1.1 ho1.2 ?_
    refine xt_iconst (v := 0) dX11_compile_102 (by decide) ?_
    obtain ⟨ho26, H⟩ := H
    obtain ⟨hi, H⟩ := H
    obtain ⟨M27, eM27⟩ : ∃ z, z = wAI M24 b25 (mI M24 x0 19 : Int32).toNatClampNeg 0 := ⟨_, rfl⟩
    have H := H _ eM27
    refine xt_iast dX11_compile_103 ho26.1 ho26.2 hi ?_
    have ho1 : ok M27 x0 13 := by rw [eM27]; exact ho1
    rw [← eM27]
    refine xt_aload_n (j := 0) dX11_compile_104 rfl rfl ?_
    obtain ⟨b28, hb, H⟩ := H
    refine xt_getR dX11_compile_105 (flX11_93 rfl) ft_13_37 ho1.1 ho1.2 hb ?_
    refine xt_aload_n (j := 0) dX11_compile_108 rfl rfl ?_
    refine xt_getI dX11_compile_109 (flX11_450 rfl) ft_13_19 ho1.1 ho1.2 ?_
    refine xt_iconst (v := 0) dX11_compile_112 (by decide) ?_
    obtain ⟨ho29, H⟩ := H
    obtain ⟨hi, H⟩ := H
    obtain ⟨M30, eM30⟩ : ∃ z, z = wAI M27 b28 (mI M27 x0 19 : Int32).toNatClampNeg 0 := ⟨_, rfl⟩
    have H := H _ eM30
    refine xt_iast dX11_compile_113 ho29.1 ho29.2 hi ?_
    have ho1 : ok M30 x0 13 := by rw [eM30]; exact ho1
    rw [← eM30]
    refine xt_aload_n (j := 0) dX11_compile_114 rfl rfl ?_
    obtain ⟨b31, hb, H⟩ := H
    refine xt_getR dX11_compile_115 (flX11_159 rfl) ft_13_61 ho1.1 ho1.2 hb ?_
    refine xt_aload_n (j := 0) dX11_compile_118 rfl rfl ?_
    refine xt_getI dX11_compile_119 (flX11_450 rfl) ft_13_19 ho1.1 ho1.2 ?_
    refine xt_iconst (v := 0) dX11_compile_122 (by decide) ?_
    obtain ⟨ho32, H⟩ := H
    obtain ⟨hi, H⟩ := H
    obtain ⟨M33, eM33⟩ : ∃ z, z = wAI M30 b31 (mI M30 x0 19 : Int32).toNatClampNeg 0 := ⟨_, rfl⟩
    have H := H _ eM33
    refine xt_iast dX11_compile_123 ho32.1 ho32.2 hi ?_
    have ho1 : ok M33 x0 13 := by rw [eM33]; exact ho1
    rw [← eM33]
    refine xt_aload_n (j := 0) dX11_compile_124 rfl rfl ?_
    obtain ⟨b34, hb, H⟩ := H
    refine xt_getR dX11_compile_125 (flX11_288 rfl) ft_13_114 ho1.1 ho1.2 hb ?_
    refine xt_aload_n (j := 0) dX11_compile_128 rfl rfl ?_
    refine xt_getI dX11_compile_129 (flX11_450 rfl) ft_13_19 ho1.1 ho1.2 ?_
    refine xt_iconst (v := 0) dX11_compile_132 (by decide) ?_
    obtain ⟨ho35, H⟩ := H
    obtain ⟨hi, H⟩ := H
    obtain ⟨M36, eM36⟩ : ∃ z, z = wAI M33 b34 (mI M33 x0 19 : Int32).toNatClampNeg 0 := ⟨_, rfl⟩
    have H := H _ eM36
    refine xt_iast dX11_compile_133 ho35.1 ho35.2 hi ?_
    have ho1 : ok M36 x0 13 := by rw [eM36]; exact ho1
    rw [← eM36]
    refine xt_aload_n (j := 0) dX11_compile_134 rfl rfl ?_
    refine xt_callV (h2 := h) (as := []) (st := []) dX11_compile_135 (mlX11_712 rfl) rfl ho1.1 ⟨by rw [ho1.2]; rfl, by rw [ho1.2]; decide⟩ (by first | decide | (simp [Value.category]; done)) (Nat.le_refl _) H (fun r M37 HH hE => ?_)
    obtain ⟨hr, H⟩ := HH hE
    subst hr
    have ho1 := ok_E ho1 hE
    show T _ _ _ _ [] _ _
    refine xt_aload_n (j := 0) dX11_compile_138 rfl rfl ?_
    refine xt_iconst (v := 0) dX11_compile_139 (by decide) ?_
    obtain ⟨M38, eM38⟩ : ∃ z, z = wI M37 x0 1 0 := ⟨_, rfl⟩
    have H := H _ eM38
    refine xt_putI dX11_compile_140 (flX11_325 rfl) ty_13_1 rfl ho1.1 ho1.2 ?_
    have ho1 : ok M38 x0 13 := by rw [eM38]; exact ho1
    rw [← eM38]
    refine xt_aload_n (j := 0) dX11_compile_143 rfl rfl ?_
    refine xt_iconst (v := 0) dX11_compile_144 (by decide) ?_
    obtain ⟨M39, eM39⟩ : ∃ z, z = wI M38 x0 5 0 := ⟨_, rfl⟩
    have H := H _ eM39
    refine xt_putI dX11_compile_145 (flX11_366 rfl) ty_13_5 rfl ho1.1 ho1.2 ?_
    have ho1 : ok M39 x0 13 := by rw [eM39]; exact ho1
    rw [← eM39]
    refine xt_aload_n (j := 0) dX11_compile_148 rfl rfl ?_
    obtain ⟨b40, hb, H⟩ := H
    refine xt_getR dX11_compile_149 (flX11_13 rfl) ft_13_2 ho1.1 ho1.2 hb ?_
    refine xt_iconst (v := 0) dX11_compile_152 (by decide) ?_
    obtain ⟨ho41, H⟩ := H
    obtain ⟨hi, H⟩ := H
    refine xt_iald dX11_compile_153 ho41.1 ho41.2 hi ?_
    refine xt_iconst (v := 4) dX11_compile_154 (by decide) ?_
    refine xt_icmp_ne (tgt := 169) dX11_compile_155 (by decide) (fun hc => ?_) (fun hc => ?_)
    · have H := H.1 hc
      exact xt_sub [0] rfl (VX11_compile_169 H)
    · have H := H.2 hc
      refine xt_aload_n (j := 0) dX11_compile_158 rfl rfl ?_
      refine xt_iconst (v := 1) dX11_compile_159 (by decide) ?_
      refine xt_aload_n (j := 0) dX11_compile_160 rfl rfl ?_
      obtain ⟨b42, hb, H⟩ := H
      refine xt_getR dX11_compile_161 (flX11_16 rfl) ft_13_3 ho1.1 ho1.2 hb ?_
      refine xt_iconst (v := 0) dX11_compile_164 (by decide) ?_
      obtain ⟨ho43, H⟩ := H
      obtain ⟨hi, H⟩ := H
      refine xt_iald dX11_compile_165 ho43.1 ho43.2 hi ?_
      refine xt_callV (h2 := h) (as := [.int 1, .int (mAI M39 b42 (0 : Int32).toNatClampNeg)]) (st := []) dX11_compile_166 (mlX11_369 rfl) rfl ho1.1 ⟨by rw [ho1.2]; rfl, by rw [ho1.2]; decide⟩ (by first | decide | (simp [Value.category]; done)) (Nat.le_refl _) H (fun r M44 HH hE => ?_)
      obtain ⟨hr, H⟩ := HH hE
      subst hr
      have ho1 := ok_E ho1 hE
      show T _ _ _ _ [] _ _
      exact xt_sub [0] rfl (VX11_compile_169 H)
  · have H := H.2 hc
    refine xt_bipush (v := -3) dX11_compile_8 (by decide) ?_
    exact xt_ireturn dX11_compile_10 rfl H
theorem KX11_compile {h : Nat} {x0 : Nat} {M : Mem} {Q : Option Value → Mem → Prop} (H : DX11_compile_0 h x0 M Q) : E (h + 1) mdX11_compile [.ref x0] M Q := E.of (by decide) (Nat.le_of_ble_eq_true rfl) (fun _ _ _ => trivial) (VX11_compile_0 H)
def DX11_fault_0 (h : Nat) (x0 : Nat) (M : Mem) (Q : Option Value → Mem → Prop) : Prop :=
  ok M x0 13 ∧ Q (some (.int (mI M x0 6))) M
set_option maxRecDepth 20000 in
set_option maxHeartbeats 2000000 in
theorem VX11_fault_0 {h : Nat} {x0 : Nat} {M : Mem} {Q : Option Value → Mem → Prop} (H : DX11_fault_0 h x0 M Q) : T (h + 1) mdX11_fault 0 [(0, .ref x0)] [] M Q := by
  unfold DX11_fault_0 at H
  refine xt_aload_n (j := 0) dX11_fault_0 rfl rfl ?_
  obtain ⟨ho1, H⟩ := H
  refine xt_getI dX11_fault_1 (flX11_360 rfl) ft_13_6 ho1.1 ho1.2 ?_
  exact xt_ireturn dX11_fault_4 rfl H
theorem KX11_fault {h : Nat} {x0 : Nat} {M : Mem} {Q : Option Value → Mem → Prop} (H : DX11_fault_0 h x0 M Q) : E (h + 1) mdX11_fault [.ref x0] M Q := E.of (by decide) (Nat.le_of_ble_eq_true rfl) (fun _ _ _ => trivial) (VX11_fault_0 H)
def DX11_isModule_0 (h : Nat) (x0 : Nat) (x1 : Int32) (M : Mem) (Q : Option Value → Mem → Prop) : Prop :=
  ok M x0 13 ∧ E h mdX11_in [.long ((x1 : Int32).toInt64), .long 0, .long (((mI M x0 18) - 1 : Int32).toInt64)] M (fun r M2 => mE M M2 → ∃ r3 : Int32, r = some (.int r3) ∧ (r3 = 0 ∨ r3 = 1) ∧ Q (some (.int r3)) M2)
set_option maxRecDepth 20000 in
set_option maxHeartbeats 2000000 in
theorem VX11_isModule_0 {h : Nat} {x0 : Nat} {x1 : Int32} {M : Mem} {Q : Option Value → Mem → Prop} (H : DX11_isModule_0 h x0 x1 M Q) : T (h + 1) mdX11_isModule 0 [(0, .ref x0), (1, .int x1)] [] M Q := by
  unfold DX11_isModule_0 at H
  refine xt_iload_n (j := 1) dX11_isModule_0 rfl rfl ?_
  refine xt_i2l dX11_isModule_1 ?_
  refine xt_lconst (v := 0) dX11_isModule_2 (by decide) ?_
  refine xt_aload_n (j := 0) dX11_isModule_3 rfl rfl ?_
  obtain ⟨ho1, H⟩ := H
  refine xt_getI dX11_isModule_4 (flX11_709 rfl) ft_13_18 ho1.1 ho1.2 ?_
  refine xt_iconst (v := 1) dX11_isModule_7 (by decide) ?_
  refine xt_isub dX11_isModule_8 ?_
  refine xt_i2l dX11_isModule_9 ?_
  refine xt_callS (h2 := h) (as := [.long ((x1 : Int32).toInt64), .long 0, .long (((mI M x0 18) - 1 : Int32).toInt64)]) (st := []) dX11_isModule_10 (mlX11_332 rfl) rfl (by first | decide | (simp [Value.category]; done)) (Nat.le_refl _) H (fun r M2 HH hE => ?_)
  obtain ⟨r3, hr, H⟩ := HH hE
  subst hr
  have ho1 := ok_E ho1 hE
  show T _ _ _ _ [.int r3] _ _
  exact xt_zreturn dX11_isModule_13 rfl H.1 H.2
theorem KX11_isModule {h : Nat} {x0 : Nat} {x1 : Int32} {M : Mem} {Q : Option Value → Mem → Prop} (H : DX11_isModule_0 h x0 x1 M Q) : E (h + 1) mdX11_isModule [.ref x0, .int x1] M Q := E.of (by decide) (Nat.le_of_ble_eq_true rfl) (fun _ _ _ => trivial) (VX11_isModule_0 H)
def DX11_module_108 (h : Nat) (x0 : Nat) (x1 : Int32) (x4 : Int32) (s0 : Int32) (s1 : Int32) (M : Mem) (Q : Option Value → Mem → Prop) : Prop :=
  T (h + 1) mdX11_module 75 [(0, .ref x0), (1, .int x1), (3, .int (s0 + s1)), (4, .int (x4 + 1))] [] M Q
set_option maxRecDepth 20000 in
set_option maxHeartbeats 2000000 in
theorem VX11_module_108 {h : Nat} {x0 : Nat} {x1 : Int32} {x4 : Int32} {s0 : Int32} {s1 : Int32} {M : Mem} {Q : Option Value → Mem → Prop} (H : DX11_module_108 h x0 x1 x4 s0 s1 M Q) : T (h + 1) mdX11_module 108 [(0, .ref x0), (1, .int x1), (4, .int x4)] [.int s1, .int s0] M Q := by
  unfold DX11_module_108 at H
  refine xt_iadd dX11_module_108 ?_
  refine xt_istore_n (lv' := [(3, .int (s0 + s1)), (0, .ref x0), (1, .int x1), (4, .int x4)]) dX11_module_109 rfl (by decide) rfl ?_
  refine xt_iinc (j := 3) (v := x4 + 1) (lv' := [(4, .int (x4 + 1)), (3, .int (s0 + s1)), (0, .ref x0), (1, .int x1)]) dX11_module_110 rfl (by rfl) (by decide) rfl ?_
  refine xt_goto (tgt := 75) dX11_module_113 (by decide) ?_
  exact xt_sub (lv' := [(0, .ref x0), (1, .int x1), (3, .int (s0 + s1)), (4, .int (x4 + 1))]) [2, 3, 1, 0] rfl H
def DX11_module_75 (h : Nat) (x0 : Nat) (x1 : Int32) (x3 : Int32) (x4 : Int32) (M : Mem) (Q : Option Value → Mem → Prop) : Prop :=
  ok M x0 13 ∧ ∃ b2 : Nat, mR M x0 8 = some b2 ∧ ok M b2 21 ∧ vp_in x1 (mL M b2) ∧ ((mAI M b2 (x1 : Int32).toNatClampNeg) ≤ x4 → Q (some (.int x3)) M) ∧
  (¬ ((mAI M b2 (x1 : Int32).toNatClampNeg) ≤ x4) → ∃ b4 : Nat, mR M x0 12 = some b4 ∧ ok M b4 21 ∧ vp_in ((16 * x1) + x4) (mL M b4) ∧ (¬ (mAI M b4 ((16 * x1) + x4 : Int32).toNatClampNeg) = 1 → DX11_module_108 h x0 x1 x4 x3 0 M Q) ∧
  ((mAI M b4 ((16 * x1) + x4 : Int32).toNatClampNeg) = 1 → DX11_module_108 h x0 x1 x4 x3 1 M Q))
set_option maxRecDepth 20000 in
set_option maxHeartbeats 2000000 in
theorem VX11_module_75 {h : Nat} {x0 : Nat} {x1 : Int32} {x3 : Int32} {x4 : Int32} {M : Mem} {Q : Option Value → Mem → Prop} (H : DX11_module_75 h x0 x1 x3 x4 M Q) : T (h + 1) mdX11_module 75 [(0, .ref x0), (1, .int x1), (3, .int x3), (4, .int x4)] [] M Q := by
  unfold DX11_module_75 at H
  refine xt_iload (j := 3) dX11_module_75 rfl ?_
  refine xt_aload_n (j := 0) dX11_module_77 rfl rfl ?_
  obtain ⟨ho1, H⟩ := H
  obtain ⟨b2, hb, H⟩ := H
  refine xt_getR dX11_module_78 (flX11_23 rfl) ft_13_8 ho1.1 ho1.2 hb ?_
  refine xt_iload_n (j := 1) dX11_module_81 rfl rfl ?_
  obtain ⟨ho3, H⟩ := H
  obtain ⟨hi, H⟩ := H
  refine xt_iald dX11_module_82 ho3.1 ho3.2 hi ?_
  refine xt_icmp_ge (tgt := 116) dX11_module_83 (by decide) (fun hc => ?_) (fun hc => ?_)
  · have H := H.1 hc
    refine xt_iload_n (j := 2) dX11_module_116 rfl rfl ?_
    exact xt_ireturn dX11_module_117 rfl H
  · have H := H.2 hc
    refine xt_iload_n (j := 2) dX11_module_86 rfl rfl ?_
    refine xt_aload_n (j := 0) dX11_module_87 rfl rfl ?_
    obtain ⟨b4, hb, H⟩ := H
    refine xt_getR dX11_module_88 (flX11_35 rfl) ft_13_12 ho1.1 ho1.2 hb ?_
    refine xt_bipush (v := 16) dX11_module_91 (by decide) ?_
    refine xt_iload_n (j := 1) dX11_module_93 rfl rfl ?_
    refine xt_imul dX11_module_94 ?_
    refine xt_iload (j := 3) dX11_module_95 rfl ?_
    refine xt_iadd dX11_module_97 ?_
    obtain ⟨ho5, H⟩ := H
    obtain ⟨hi, H⟩ := H
    refine xt_iald dX11_module_98 ho5.1 ho5.2 hi ?_
    refine xt_iconst (v := 1) dX11_module_99 (by decide) ?_
    refine xt_icmp_ne (tgt := 107) dX11_module_100 (by decide) (fun hc => ?_) (fun hc => ?_)
    · have H := H.1 hc
      refine xt_iconst (v := 0) dX11_module_107 (by decide) ?_
      exact xt_sub [0, 1, 3] rfl (VX11_module_108 H)
    · have H := H.2 hc
      refine xt_iconst (v := 1) dX11_module_103 (by decide) ?_
      refine xt_goto (tgt := 108) dX11_module_104 (by decide) ?_
      exact xt_sub [0, 1, 3] rfl (VX11_module_108 H)
def DX11_module_0 (h : Nat) (x0 : Nat) (x1 : Int32) (x2 : Int32) (M : Mem) (Q : Option Value → Mem → Prop) : Prop :=
  ok M x0 13 ∧ E h mdX11_isModule [.ref x0, .int x1] M (fun r M2 => mE M M2 → ∃ r3 : Int32, r = some (.int r3) ∧ (¬ r3 = 0 → (x2 = 0 → ∃ b4 : Nat, mR M2 x0 8 = some b4 ∧ ok M2 b4 21 ∧ vp_in x1 (mL M2 b4) ∧ Q (some (.int (mAI M2 b4 (x1 : Int32).toNatClampNeg))) M2) ∧
  (x2 = 1 → ∃ b6 : Nat, mR M2 x0 9 = some b6 ∧ ok M2 b6 21 ∧ vp_in x1 (mL M2 b6) ∧ Q (some (.int (mAI M2 b6 (x1 : Int32).toNatClampNeg))) M2) ∧
  (x2 = 2 → T (h + 1) mdX11_module 75 [(0, .ref x0), (1, .int x1), (3, .int 0), (4, .int 0)] [] M2 Q) ∧
  (x2 = 3 → ∃ b8 : Nat, mR M2 x0 10 = some b8 ∧ ok M2 b8 21 ∧ vp_in x1 (mL M2 b8) ∧ Q (some (.int (mAI M2 b8 (x1 : Int32).toNatClampNeg))) M2) ∧
  (x2 = 4 → ∃ b10 : Nat, mR M2 x0 34 = some b10 ∧ ok M2 b10 21 ∧ vp_in x1 (mL M2 b10) ∧ Q (some (.int (mAI M2 b10 (x1 : Int32).toNatClampNeg))) M2) ∧
  (x2 = 5 → ∃ b12 : Nat, mR M2 x0 35 = some b12 ∧ ok M2 b12 21 ∧ vp_in x1 (mL M2 b12) ∧ Q (some (.int (mAI M2 b12 (x1 : Int32).toNatClampNeg))) M2) ∧
  (x2 = 6 → ∃ b14 : Nat, mR M2 x0 36 = some b14 ∧ ok M2 b14 21 ∧ vp_in x1 (mL M2 b14) ∧ Q (some (.int (mAI M2 b14 (x1 : Int32).toNatClampNeg))) M2) ∧
  (x2 = 7 → ∃ b16 : Nat, mR M2 x0 37 = some b16 ∧ ok M2 b16 21 ∧ vp_in x1 (mL M2 b16) ∧ Q (some (.int (mAI M2 b16 (x1 : Int32).toNatClampNeg))) M2) ∧
  (((x2 : Int32).toInt < 0 ∨ 7 < (x2 : Int32).toInt) → Q (some (.int (-1))) M2)) ∧
  (r3 = 0 → Q (some (.int (-1))) M2))
set_option maxRecDepth 20000 in
set_option maxHeartbeats 2000000 in
theorem VX11_module_0 {h : Nat} {x0 : Nat} {x1 : Int32} {x2 : Int32} {M : Mem} {Q : Option Value → Mem → Prop} (H : DX11_module_0 h x0 x1 x2 M Q) : T (h + 1) mdX11_module 0 [(0, .ref x0), (1, .int x1), (2, .int x2)] [] M Q := by
  unfold DX11_module_0 at H
  refine xt_aload_n (j := 0) dX11_module_0 rfl rfl ?_
  refine xt_iload_n (j := 1) dX11_module_1 rfl rfl ?_
  obtain ⟨ho1, H⟩ := H
  refine xt_callV (h2 := h) (as := [.int x1]) (st := []) dX11_module_2 (mlX11_727 rfl) rfl ho1.1 ⟨by rw [ho1.2]; rfl, by rw [ho1.2]; decide⟩ (by first | decide | (simp [Value.category]; done)) (Nat.le_refl _) H (fun r M2 HH hE => ?_)
  obtain ⟨r3, hr, H⟩ := HH hE
  subst hr
  have ho1 := ok_E ho1 hE
  show T _ _ _ _ [.int r3] _ _
  refine xt_if_ne (tgt := 10) dX11_module_5 (by decide) (fun hc => ?_) (fun hc => ?_)
  · have H := H.1 hc
    refine xt_iload_n (j := 2) dX11_module_10 rfl rfl ?_
    by_cases hsw : (x2 : Int32).toInt < 0 ∨ 7 < (x2 : Int32).toInt
    · refine xt_tableOut (tgt := 153) dX11_module_11 hsw (by decide) ?_
      have H := H.2.2.2.2.2.2.2.2 hsw
      refine xt_iconst (v := -1) dX11_module_153 (by decide) ?_
      exact xt_ireturn dX11_module_154 rfl H
    · have hsw2 : (x2 : Int32).toInt = 0 ∨ (x2 : Int32).toInt = 1 ∨ (x2 : Int32).toInt = 2 ∨ (x2 : Int32).toInt = 3 ∨ (x2 : Int32).toInt = 4 ∨ (x2 : Int32).toInt = 5 ∨ (x2 : Int32).toInt = 6 ∨ (x2 : Int32).toInt = 7 := by omega
      rcases hsw2 with hv | hv | hv | hv | hv | hv | hv | hv
      · have hx : x2 = 0 := i32_ofInt hv
        have H := H.1 hx
        refine xt_tableIn (tgt := 56) dX11_module_11 (by omega) (by omega) (by rw [hv]; rfl) (by decide) ?_
        refine xt_aload_n (j := 0) dX11_module_56 rfl rfl ?_
        obtain ⟨b4, hb, H⟩ := H
        refine xt_getR dX11_module_57 (flX11_23 rfl) ft_13_8 ho1.1 ho1.2 hb ?_
        refine xt_iload_n (j := 1) dX11_module_60 rfl rfl ?_
        obtain ⟨ho5, H⟩ := H
        obtain ⟨hi, H⟩ := H
        refine xt_iald dX11_module_61 ho5.1 ho5.2 hi ?_
        exact xt_ireturn dX11_module_62 rfl H
      · have hx : x2 = 1 := i32_ofInt hv
        have H := H.2.1 hx
        refine xt_tableIn (tgt := 63) dX11_module_11 (by omega) (by omega) (by rw [hv]; rfl) (by decide) ?_
        refine xt_aload_n (j := 0) dX11_module_63 rfl rfl ?_
        obtain ⟨b6, hb, H⟩ := H
        refine xt_getR dX11_module_64 (flX11_26 rfl) ft_13_9 ho1.1 ho1.2 hb ?_
        refine xt_iload_n (j := 1) dX11_module_67 rfl rfl ?_
        obtain ⟨ho7, H⟩ := H
        obtain ⟨hi, H⟩ := H
        refine xt_iald dX11_module_68 ho7.1 ho7.2 hi ?_
        exact xt_ireturn dX11_module_69 rfl H
      · have hx : x2 = 2 := i32_ofInt hv
        have H := H.2.2.1 hx
        refine xt_tableIn (tgt := 70) dX11_module_11 (by omega) (by omega) (by rw [hv]; rfl) (by decide) ?_
        refine xt_iconst (v := 0) dX11_module_70 (by decide) ?_
        refine xt_istore_n (lv' := [(3, .int 0), (0, .ref x0), (1, .int x1), (2, .int x2)]) dX11_module_71 rfl (by decide) rfl ?_
        refine xt_iconst (v := 0) dX11_module_72 (by decide) ?_
        refine xt_istore (lv' := [(4, .int 0), (3, .int 0), (0, .ref x0), (1, .int x1), (2, .int x2)]) dX11_module_73 (by decide) rfl ?_
        exact xt_sub (lv' := [(0, .ref x0), (1, .int x1), (3, .int 0), (4, .int 0)]) [2, 3, 1, 0] rfl H
      · have hx : x2 = 3 := i32_ofInt hv
        have H := H.2.2.2.1 hx
        refine xt_tableIn (tgt := 118) dX11_module_11 (by omega) (by omega) (by rw [hv]; rfl) (by decide) ?_
        refine xt_aload_n (j := 0) dX11_module_118 rfl rfl ?_
        obtain ⟨b8, hb, H⟩ := H
        refine xt_getR dX11_module_119 (flX11_29 rfl) ft_13_10 ho1.1 ho1.2 hb ?_
        refine xt_iload_n (j := 1) dX11_module_122 rfl rfl ?_
        obtain ⟨ho9, H⟩ := H
        obtain ⟨hi, H⟩ := H
        refine xt_iald dX11_module_123 ho9.1 ho9.2 hi ?_
        exact xt_ireturn dX11_module_124 rfl H
      · have hx : x2 = 4 := i32_ofInt hv
        have H := H.2.2.2.2.1 hx
        refine xt_tableIn (tgt := 125) dX11_module_11 (by omega) (by omega) (by rw [hv]; rfl) (by decide) ?_
        refine xt_aload_n (j := 0) dX11_module_125 rfl rfl ?_
        obtain ⟨b10, hb, H⟩ := H
        refine xt_getR dX11_module_126 (flX11_84 rfl) ft_13_34 ho1.1 ho1.2 hb ?_
        refine xt_iload_n (j := 1) dX11_module_129 rfl rfl ?_
        obtain ⟨ho11, H⟩ := H
        obtain ⟨hi, H⟩ := H
        refine xt_iald dX11_module_130 ho11.1 ho11.2 hi ?_
        exact xt_ireturn dX11_module_131 rfl H
      · have hx : x2 = 5 := i32_ofInt hv
        have H := H.2.2.2.2.2.1 hx
        refine xt_tableIn (tgt := 132) dX11_module_11 (by omega) (by omega) (by rw [hv]; rfl) (by decide) ?_
        refine xt_aload_n (j := 0) dX11_module_132 rfl rfl ?_
        obtain ⟨b12, hb, H⟩ := H
        refine xt_getR dX11_module_133 (flX11_87 rfl) ft_13_35 ho1.1 ho1.2 hb ?_
        refine xt_iload_n (j := 1) dX11_module_136 rfl rfl ?_
        obtain ⟨ho13, H⟩ := H
        obtain ⟨hi, H⟩ := H
        refine xt_iald dX11_module_137 ho13.1 ho13.2 hi ?_
        exact xt_ireturn dX11_module_138 rfl H
      · have hx : x2 = 6 := i32_ofInt hv
        have H := H.2.2.2.2.2.2.1 hx
        refine xt_tableIn (tgt := 139) dX11_module_11 (by omega) (by omega) (by rw [hv]; rfl) (by decide) ?_
        refine xt_aload_n (j := 0) dX11_module_139 rfl rfl ?_
        obtain ⟨b14, hb, H⟩ := H
        refine xt_getR dX11_module_140 (flX11_90 rfl) ft_13_36 ho1.1 ho1.2 hb ?_
        refine xt_iload_n (j := 1) dX11_module_143 rfl rfl ?_
        obtain ⟨ho15, H⟩ := H
        obtain ⟨hi, H⟩ := H
        refine xt_iald dX11_module_144 ho15.1 ho15.2 hi ?_
        exact xt_ireturn dX11_module_145 rfl H
      · have hx : x2 = 7 := i32_ofInt hv
        have H := H.2.2.2.2.2.2.2.1 hx
        refine xt_tableIn (tgt := 146) dX11_module_11 (by omega) (by omega) (by rw [hv]; rfl) (by decide) ?_
        refine xt_aload_n (j := 0) dX11_module_146 rfl rfl ?_
        obtain ⟨b16, hb, H⟩ := H
        refine xt_getR dX11_module_147 (flX11_93 rfl) ft_13_37 ho1.1 ho1.2 hb ?_
        refine xt_iload_n (j := 1) dX11_module_150 rfl rfl ?_
        obtain ⟨ho17, H⟩ := H
        obtain ⟨hi, H⟩ := H
        refine xt_iald dX11_module_151 ho17.1 ho17.2 hi ?_
        exact xt_ireturn dX11_module_152 rfl H
  · have H := H.2 hc
    refine xt_iconst (v := -1) dX11_module_8 (by decide) ?_
    exact xt_ireturn dX11_module_9 rfl H
theorem KX11_module {h : Nat} {x0 : Nat} {x1 : Int32} {x2 : Int32} {M : Mem} {Q : Option Value → Mem → Prop} (H : DX11_module_0 h x0 x1 x2 M Q) : E (h + 1) mdX11_module [.ref x0, .int x1, .int x2] M Q := E.of (by decide) (Nat.le_of_ble_eq_true rfl) (fun _ _ _ => trivial) (VX11_module_0 H)
def DX11_part_41 (h : Nat) (s0 : Int32) (M : Mem) (Q : Option Value → Mem → Prop) : Prop :=
  Q (some (.int s0)) M
set_option maxRecDepth 20000 in
set_option maxHeartbeats 2000000 in
theorem VX11_part_41 {h : Nat} {s0 : Int32} {M : Mem} {Q : Option Value → Mem → Prop} (H : DX11_part_41 h s0 M Q) : T (h + 1) mdX11_part 41 [] [.int s0] M Q := by
  unfold DX11_part_41 at H
  exact xt_ireturn dX11_part_41 rfl H
def DX11_part_40 (h : Nat) (M : Mem) (Q : Option Value → Mem → Prop) : Prop :=
  DX11_part_41 h (-1) M Q
set_option maxRecDepth 20000 in
set_option maxHeartbeats 2000000 in
theorem VX11_part_40 {h : Nat} {M : Mem} {Q : Option Value → Mem → Prop} (H : DX11_part_40 h  M Q) : T (h + 1) mdX11_part 40 [] [] M Q := by
  unfold DX11_part_40 at H
  refine xt_iconst (v := -1) dX11_part_40 (by decide) ?_
  exact xt_sub [] rfl (VX11_part_41 H)
def DX11_part_0 (h : Nat) (x0 : Nat) (x1 : Int32) (x2 : Int32) (M : Mem) (Q : Option Value → Mem → Prop) : Prop :=
  ok M x0 13 ∧ E h mdX11_isModule [.ref x0, .int x1] M (fun r M2 => mE M M2 → ∃ r3 : Int32, r = some (.int r3) ∧ (r3 = 0 → DX11_part_40 h  M2 Q) ∧
  (¬ (r3 = 0) → ∃ b4 : Nat, mR M2 x0 34 = some b4 ∧ ok M2 b4 21 ∧ vp_in x1 (mL M2 b4) ∧ E h mdX11_in [.long ((x2 : Int32).toInt64), .long 0, .long (((mAI M2 b4 (x1 : Int32).toNatClampNeg) - 1 : Int32).toInt64)] M2 (fun r M6 => mE M2 M6 → ∃ r7 : Int32, r = some (.int r7) ∧ (r7 = 0 → DX11_part_40 h  M6 Q) ∧
  (¬ (r7 = 0) → ∃ b8 : Nat, mR M6 x0 39 = some b8 ∧ ok M6 b8 21 ∧ vp_in ((40 * x1) + x2) (mL M6 b8) ∧ DX11_part_41 h (mAI M6 b8 ((40 * x1) + x2 : Int32).toNatClampNeg) M6 Q))))
set_option maxRecDepth 20000 in
set_option maxHeartbeats 2000000 in
theorem VX11_part_0 {h : Nat} {x0 : Nat} {x1 : Int32} {x2 : Int32} {M : Mem} {Q : Option Value → Mem → Prop} (H : DX11_part_0 h x0 x1 x2 M Q) : T (h + 1) mdX11_part 0 [(0, .ref x0), (1, .int x1), (2, .int x2)] [] M Q := by
  unfold DX11_part_0 at H
  refine xt_aload_n (j := 0) dX11_part_0 rfl rfl ?_
  refine xt_iload_n (j := 1) dX11_part_1 rfl rfl ?_
  obtain ⟨ho1, H⟩ := H
  refine xt_callV (h2 := h) (as := [.int x1]) (st := []) dX11_part_2 (mlX11_727 rfl) rfl ho1.1 ⟨by rw [ho1.2]; rfl, by rw [ho1.2]; decide⟩ (by first | decide | (simp [Value.category]; done)) (Nat.le_refl _) H (fun r M2 HH hE => ?_)
  obtain ⟨r3, hr, H⟩ := HH hE
  subst hr
  have ho1 := ok_E ho1 hE
  show T _ _ _ _ [.int r3] _ _
  refine xt_if_eq (tgt := 40) dX11_part_5 (by decide) (fun hc => ?_) (fun hc => ?_)
  · have H := H.1 hc
    exact xt_sub [] rfl (VX11_part_40 H)
  · have H := H.2 hc
    refine xt_iload_n (j := 2) dX11_part_8 rfl rfl ?_
    refine xt_i2l dX11_part_9 ?_
    refine xt_lconst (v := 0) dX11_part_10 (by decide) ?_
    refine xt_aload_n (j := 0) dX11_part_11 rfl rfl ?_
    obtain ⟨b4, hb, H⟩ := H
    refine xt_getR dX11_part_12 (flX11_84 rfl) ft_13_34 ho1.1 ho1.2 hb ?_
    refine xt_iload_n (j := 1) dX11_part_15 rfl rfl ?_
    obtain ⟨ho5, H⟩ := H
    obtain ⟨hi, H⟩ := H
    refine xt_iald dX11_part_16 ho5.1 ho5.2 hi ?_
    refine xt_iconst (v := 1) dX11_part_17 (by decide) ?_
    refine xt_isub dX11_part_18 ?_
    refine xt_i2l dX11_part_19 ?_
    refine xt_callS (h2 := h) (as := [.long ((x2 : Int32).toInt64), .long 0, .long (((mAI M2 b4 (x1 : Int32).toNatClampNeg) - 1 : Int32).toInt64)]) (st := []) dX11_part_20 (mlX11_332 rfl) rfl (by first | decide | (simp [Value.category]; done)) (Nat.le_refl _) H (fun r M6 HH hE => ?_)
    obtain ⟨r7, hr, H⟩ := HH hE
    subst hr
    have ho1 := ok_E ho1 hE
    show T _ _ _ _ [.int r7] _ _
    refine xt_if_eq (tgt := 40) dX11_part_23 (by decide) (fun hc => ?_) (fun hc => ?_)
    · have H := H.1 hc
      exact xt_sub [] rfl (VX11_part_40 H)
    · have H := H.2 hc
      refine xt_aload_n (j := 0) dX11_part_26 rfl rfl ?_
      obtain ⟨b8, hb, H⟩ := H
      refine xt_getR dX11_part_27 (flX11_99 rfl) ft_13_39 ho1.1 ho1.2 hb ?_
      refine xt_bipush (v := 40) dX11_part_30 (by decide) ?_
      refine xt_iload_n (j := 1) dX11_part_32 rfl rfl ?_
      refine xt_imul dX11_part_33 ?_
      refine xt_iload_n (j := 2) dX11_part_34 rfl rfl ?_
      refine xt_iadd dX11_part_35 ?_
      obtain ⟨ho9, H⟩ := H
      obtain ⟨hi, H⟩ := H
      refine xt_iald dX11_part_36 ho9.1 ho9.2 hi ?_
      refine xt_goto (tgt := 41) dX11_part_37 (by decide) ?_
      exact xt_sub [] rfl (VX11_part_41 H)
theorem KX11_part {h : Nat} {x0 : Nat} {x1 : Int32} {x2 : Int32} {M : Mem} {Q : Option Value → Mem → Prop} (H : DX11_part_0 h x0 x1 x2 M Q) : E (h + 1) mdX11_part [.ref x0, .int x1, .int x2] M Q := E.of (by decide) (Nat.le_of_ble_eq_true rfl) (fun _ _ _ => trivial) (VX11_part_0 H)
def DX11_both_27 (h : Nat) (s0 : Int32) (M : Mem) (Q : Option Value → Mem → Prop) : Prop :=
  Q (some (.int s0)) M
set_option maxRecDepth 20000 in
set_option maxHeartbeats 2000000 in
theorem VX11_both_27 {h : Nat} {s0 : Int32} {M : Mem} {Q : Option Value → Mem → Prop} (H : DX11_both_27 h s0 M Q) : T (h + 1) mdX11_both 27 [] [.int s0] M Q := by
  unfold DX11_both_27 at H
  exact xt_ireturn dX11_both_27 rfl H
def DX11_both_8 (h : Nat) (M : Mem) (Q : Option Value → Mem → Prop) : Prop :=
  DX11_both_27 h 0 M Q
set_option maxRecDepth 20000 in
set_option maxHeartbeats 2000000 in
theorem VX11_both_8 {h : Nat} {M : Mem} {Q : Option Value → Mem → Prop} (H : DX11_both_8 h  M Q) : T (h + 1) mdX11_both 8 [] [] M Q := by
  unfold DX11_both_8 at H
  refine xt_iconst (v := 0) dX11_both_8 (by decide) ?_
  refine xt_goto (tgt := 27) dX11_both_9 (by decide) ?_
  exact xt_sub [] rfl (VX11_both_27 H)
def DX11_both_26 (h : Nat) (M : Mem) (Q : Option Value → Mem → Prop) : Prop :=
  DX11_both_27 h 2 M Q
set_option maxRecDepth 20000 in
set_option maxHeartbeats 2000000 in
theorem VX11_both_26 {h : Nat} {M : Mem} {Q : Option Value → Mem → Prop} (H : DX11_both_26 h  M Q) : T (h + 1) mdX11_both 26 [] [] M Q := by
  unfold DX11_both_26 at H
  refine xt_iconst (v := 2) dX11_both_26 (by decide) ?_
  exact xt_sub [] rfl (VX11_both_27 H)
def DX11_both_0 (h : Nat) (x0 : Int32) (x1 : Int32) (M : Mem) (Q : Option Value → Mem → Prop) : Prop :=
  (x0 = 0 → DX11_both_8 h  M Q) ∧
  (¬ (x0 = 0) → (¬ x1 = 0 → (¬ x0 = 1 → DX11_both_26 h  M Q) ∧
  (x0 = 1 → (¬ x1 = 1 → DX11_both_26 h  M Q) ∧
  (x1 = 1 → DX11_both_27 h 1 M Q))) ∧
  (x1 = 0 → DX11_both_8 h  M Q))
set_option maxRecDepth 20000 in
set_option maxHeartbeats 2000000 in
theorem VX11_both_0 {h : Nat} {x0 : Int32} {x1 : Int32} {M : Mem} {Q : Option Value → Mem → Prop} (H : DX11_both_0 h x0 x1 M Q) : T (h + 1) mdX11_both 0 [(0, .int x0), (1, .int x1)] [] M Q := by
  unfold DX11_both_0 at H
  refine xt_iload_n (j := 0) dX11_both_0 rfl rfl ?_
  refine xt_if_eq (tgt := 8) dX11_both_1 (by decide) (fun hc => ?_) (fun hc => ?_)
  · have H := H.1 hc
    exact xt_sub [] rfl (VX11_both_8 H)
  · have H := H.2 hc
    refine xt_iload_n (j := 1) dX11_both_4 rfl rfl ?_
    refine xt_if_ne (tgt := 12) dX11_both_5 (by decide) (fun hc => ?_) (fun hc => ?_)
    · have H := H.1 hc
      refine xt_iload_n (j := 0) dX11_both_12 rfl rfl ?_
      refine xt_iconst (v := 1) dX11_both_13 (by decide) ?_
      refine xt_icmp_ne (tgt := 26) dX11_both_14 (by decide) (fun hc => ?_) (fun hc => ?_)
      · have H := H.1 hc
        exact xt_sub [] rfl (VX11_both_26 H)
      · have H := H.2 hc
        refine xt_iload_n (j := 1) dX11_both_17 rfl rfl ?_
        refine xt_iconst (v := 1) dX11_both_18 (by decide) ?_
        refine xt_icmp_ne (tgt := 26) dX11_both_19 (by decide) (fun hc => ?_) (fun hc => ?_)
        · have H := H.1 hc
          exact xt_sub [] rfl (VX11_both_26 H)
        · have H := H.2 hc
          refine xt_iconst (v := 1) dX11_both_22 (by decide) ?_
          refine xt_goto (tgt := 27) dX11_both_23 (by decide) ?_
          exact xt_sub [] rfl (VX11_both_27 H)
    · have H := H.2 hc
      exact xt_sub [] rfl (VX11_both_8 H)
theorem KX11_both {h : Nat} {x0 : Int32} {x1 : Int32} {M : Mem} {Q : Option Value → Mem → Prop} (H : DX11_both_0 h x0 x1 M Q) : E (h + 1) mdX11_both [.int x0, .int x1] M Q := E.of (by decide) (Nat.le_of_ble_eq_true rfl) (fun _ _ _ => trivial) (VX11_both_0 H)
def DX11_either_27 (h : Nat) (s0 : Int32) (M : Mem) (Q : Option Value → Mem → Prop) : Prop :=
  Q (some (.int s0)) M
set_option maxRecDepth 20000 in
set_option maxHeartbeats 2000000 in
theorem VX11_either_27 {h : Nat} {s0 : Int32} {M : Mem} {Q : Option Value → Mem → Prop} (H : DX11_either_27 h s0 M Q) : T (h + 1) mdX11_either 27 [] [.int s0] M Q := by
  unfold DX11_either_27 at H
  exact xt_ireturn dX11_either_27 rfl H
def DX11_either_10 (h : Nat) (M : Mem) (Q : Option Value → Mem → Prop) : Prop :=
  DX11_either_27 h 1 M Q
set_option maxRecDepth 20000 in
set_option maxHeartbeats 2000000 in
theorem VX11_either_10 {h : Nat} {M : Mem} {Q : Option Value → Mem → Prop} (H : DX11_either_10 h  M Q) : T (h + 1) mdX11_either 10 [] [] M Q := by
  unfold DX11_either_10 at H
  refine xt_iconst (v := 1) dX11_either_10 (by decide) ?_
  refine xt_goto (tgt := 27) dX11_either_11 (by decide) ?_
  exact xt_sub [] rfl (VX11_either_27 H)
def DX11_either_26 (h : Nat) (M : Mem) (Q : Option Value → Mem → Prop) : Prop :=
  DX11_either_27 h 2 M Q
set_option maxRecDepth 20000 in
set_option maxHeartbeats 2000000 in
theorem VX11_either_26 {h : Nat} {M : Mem} {Q : Option Value → Mem → Prop} (H : DX11_either_26 h  M Q) : T (h + 1) mdX11_either 26 [] [] M Q := by
  unfold DX11_either_26 at H
  refine xt_iconst (v := 2) dX11_either_26 (by decide) ?_
  exact xt_sub [] rfl (VX11_either_27 H)
def DX11_either_0 (h : Nat) (x0 : Int32) (x1 : Int32) (M : Mem) (Q : Option Value → Mem → Prop) : Prop :=
  (x0 = 1 → DX11_either_10 h  M Q) ∧
  (¬ (x0 = 1) → (¬ x1 = 1 → (¬ x0 = 0 → DX11_either_26 h  M Q) ∧
  (x0 = 0 → (¬ x1 = 0 → DX11_either_26 h  M Q) ∧
  (x1 = 0 → DX11_either_27 h 0 M Q))) ∧
  (x1 = 1 → DX11_either_10 h  M Q))
set_option maxRecDepth 20000 in
set_option maxHeartbeats 2000000 in
theorem VX11_either_0 {h : Nat} {x0 : Int32} {x1 : Int32} {M : Mem} {Q : Option Value → Mem → Prop} (H : DX11_either_0 h x0 x1 M Q) : T (h + 1) mdX11_either 0 [(0, .int x0), (1, .int x1)] [] M Q := by
  unfold DX11_either_0 at H
  refine xt_iload_n (j := 0) dX11_either_0 rfl rfl ?_
  refine xt_iconst (v := 1) dX11_either_1 (by decide) ?_
  refine xt_icmp_eq (tgt := 10) dX11_either_2 (by decide) (fun hc => ?_) (fun hc => ?_)
  · have H := H.1 hc
    exact xt_sub [] rfl (VX11_either_10 H)
  · have H := H.2 hc
    refine xt_iload_n (j := 1) dX11_either_5 rfl rfl ?_
    refine xt_iconst (v := 1) dX11_either_6 (by decide) ?_
    refine xt_icmp_ne (tgt := 14) dX11_either_7 (by decide) (fun hc => ?_) (fun hc => ?_)
    · have H := H.1 hc
      refine xt_iload_n (j := 0) dX11_either_14 rfl rfl ?_
      refine xt_if_ne (tgt := 26) dX11_either_15 (by decide) (fun hc => ?_) (fun hc => ?_)
      · have H := H.1 hc
        exact xt_sub [] rfl (VX11_either_26 H)
      · have H := H.2 hc
        refine xt_iload_n (j := 1) dX11_either_18 rfl rfl ?_
        refine xt_if_ne (tgt := 26) dX11_either_19 (by decide) (fun hc => ?_) (fun hc => ?_)
        · have H := H.1 hc
          exact xt_sub [] rfl (VX11_either_26 H)
        · have H := H.2 hc
          refine xt_iconst (v := 0) dX11_either_22 (by decide) ?_
          refine xt_goto (tgt := 27) dX11_either_23 (by decide) ?_
          exact xt_sub [] rfl (VX11_either_27 H)
    · have H := H.2 hc
      exact xt_sub [] rfl (VX11_either_10 H)
theorem KX11_either {h : Nat} {x0 : Int32} {x1 : Int32} {M : Mem} {Q : Option Value → Mem → Prop} (H : DX11_either_0 h x0 x1 M Q) : E (h + 1) mdX11_either [.int x0, .int x1] M Q := E.of (by decide) (Nat.le_of_ble_eq_true rfl) (fun _ _ _ => trivial) (VX11_either_0 H)
def DX11_other_12 (h : Nat) (s0 : Int32) (M : Mem) (Q : Option Value → Mem → Prop) : Prop :=
  Q (some (.int s0)) M
set_option maxRecDepth 20000 in
set_option maxHeartbeats 2000000 in
theorem VX11_other_12 {h : Nat} {s0 : Int32} {M : Mem} {Q : Option Value → Mem → Prop} (H : DX11_other_12 h s0 M Q) : T (h + 1) mdX11_other 12 [] [.int s0] M Q := by
  unfold DX11_other_12 at H
  exact xt_ireturn dX11_other_12 rfl H
def DX11_other_0 (h : Nat) (x0 : Int32) (M : Mem) (Q : Option Value → Mem → Prop) : Prop :=
  (¬ x0 = 2 → DX11_other_12 h (1 - x0) M Q) ∧
  (x0 = 2 → DX11_other_12 h 2 M Q)
set_option maxRecDepth 20000 in
set_option maxHeartbeats 2000000 in
theorem VX11_other_0 {h : Nat} {x0 : Int32} {M : Mem} {Q : Option Value → Mem → Prop} (H : DX11_other_0 h x0 M Q) : T (h + 1) mdX11_other 0 [(0, .int x0)] [] M Q := by
  unfold DX11_other_0 at H
  refine xt_iload_n (j := 0) dX11_other_0 rfl rfl ?_
  refine xt_iconst (v := 2) dX11_other_1 (by decide) ?_
  refine xt_icmp_ne (tgt := 9) dX11_other_2 (by decide) (fun hc => ?_) (fun hc => ?_)
  · have H := H.1 hc
    refine xt_iconst (v := 1) dX11_other_9 (by decide) ?_
    refine xt_iload_n (j := 0) dX11_other_10 rfl rfl ?_
    refine xt_isub dX11_other_11 ?_
    exact xt_sub [] rfl (VX11_other_12 H)
  · have H := H.2 hc
    refine xt_iconst (v := 2) dX11_other_5 (by decide) ?_
    refine xt_goto (tgt := 12) dX11_other_6 (by decide) ?_
    exact xt_sub [] rfl (VX11_other_12 H)
theorem KX11_other {h : Nat} {x0 : Int32} {M : Mem} {Q : Option Value → Mem → Prop} (H : DX11_other_0 h x0 M Q) : E (h + 1) mdX11_other [.int x0] M Q := E.of (by decide) (Nat.le_of_ble_eq_true rfl) (fun _ _ _ => trivial) (VX11_other_0 H)
def DX11_condValue_182 (h : Nat) (x0 : Nat) (x1 : Int32) (x2 : Int32) (M : Mem) (Q : Option Value → Mem → Prop) : Prop :=
  T (h + 1) mdX11_condValue 7 [(0, .ref x0), (1, .int x1), (2, .int (x2 + 1))] [] M Q
set_option maxRecDepth 20000 in
set_option maxHeartbeats 2000000 in
theorem VX11_condValue_182 {h : Nat} {x0 : Nat} {x1 : Int32} {x2 : Int32} {M : Mem} {Q : Option Value → Mem → Prop} (H : DX11_condValue_182 h x0 x1 x2 M Q) : T (h + 1) mdX11_condValue 182 [(0, .ref x0), (1, .int x1), (2, .int x2)] [] M Q := by
  unfold DX11_condValue_182 at H
  refine xt_iinc (j := 2) (v := x2 + 1) (lv' := [(2, .int (x2 + 1)), (0, .ref x0), (1, .int x1)]) dX11_condValue_182 rfl (by rfl) (by decide) rfl ?_
  refine xt_goto (tgt := 7) dX11_condValue_185 (by decide) ?_
  exact xt_sub (lv' := [(0, .ref x0), (1, .int x1), (2, .int (x2 + 1))]) [1, 2, 0] rfl H
def DX11_condValue_7 (h : Nat) (x0 : Nat) (x1 : Int32) (x2 : Int32) (M : Mem) (Q : Option Value → Mem → Prop) : Prop :=
  ok M x0 13 ∧ ∃ b2 : Nat, mR M x0 43 = some b2 ∧ ok M b2 21 ∧ vp_in x1 (mL M b2) ∧ ((mAI M b2 (x1 : Int32).toNatClampNeg) < x2 → ∃ b4 : Nat, mR M x0 90 = some b4 ∧ ∃ b5 : Nat, mR M x0 43 = some b5 ∧ ok M b5 21 ∧ vp_in x1 (mL M b5) ∧ ok M b4 21 ∧ vp_in (mAI M b5 (x1 : Int32).toNatClampNeg) (mL M b4) ∧ Q (some (.int (mAI M b4 (mAI M b5 (x1 : Int32).toNatClampNeg : Int32).toNatClampNeg))) M) ∧
  (¬ ((mAI M b2 (x1 : Int32).toNatClampNeg) < x2) → ∃ b8 : Nat, mR M x0 21 = some b8 ∧ ok M b8 21 ∧ vp_in x2 (mL M b8) ∧ ((mAI M b8 (x2 : Int32).toNatClampNeg) = 0 → ∃ b10 : Nat, mR M x0 90 = some b10 ∧ ∃ b11 : Nat, mR M x0 82 = some b11 ∧ ∃ b12 : Nat, mR M x0 22 = some b12 ∧ ok M b12 21 ∧ vp_in x2 (mL M b12) ∧ ok M b11 21 ∧ vp_in (mAI M b12 (x2 : Int32).toNatClampNeg) (mL M b11) ∧ ok M b10 21 ∧ vp_in x2 (mL M b10) ∧ ∀ M16 : Mem, M16 = wAI M b10 (x2 : Int32).toNatClampNeg (mAI M b11 (mAI M b12 (x2 : Int32).toNatClampNeg : Int32).toNatClampNeg) →
  DX11_condValue_182 h x0 x1 x2 M16 Q) ∧
  ((mAI M b8 (x2 : Int32).toNatClampNeg) = 1 → ∃ b17 : Nat, mR M x0 90 = some b17 ∧ ∃ b18 : Nat, mR M x0 22 = some b18 ∧ ok M b18 21 ∧ vp_in x2 (mL M b18) ∧ ok M b17 21 ∧ vp_in x2 (mL M b17) ∧ ∀ M21 : Mem, M21 = wAI M b17 (x2 : Int32).toNatClampNeg (((mI M x0 86) >>> ((mAI M b18 (x2 : Int32).toNatClampNeg) &&& 31)) &&& 1) →
  DX11_condValue_182 h x0 x1 x2 M21 Q) ∧
  ((mAI M b8 (x2 : Int32).toNatClampNeg) = 2 → ∃ b22 : Nat, mR M x0 90 = some b22 ∧ ∃ b23 : Nat, mR M x0 90 = some b23 ∧ ∃ b24 : Nat, mR M x0 22 = some b24 ∧ ok M b24 21 ∧ vp_in x2 (mL M b24) ∧ ok M b23 21 ∧ vp_in (mAI M b24 (x2 : Int32).toNatClampNeg) (mL M b23) ∧ E h mdX11_other [.int (mAI M b23 (mAI M b24 (x2 : Int32).toNatClampNeg : Int32).toNatClampNeg)] M (fun r M27 => mE M M27 → ∃ r28 : Int32, r = some (.int r28) ∧ ok M27 b22 21 ∧ vp_in x2 (mL M27 b22) ∧ ∀ M30 : Mem, M30 = wAI M27 b22 (x2 : Int32).toNatClampNeg r28 →
  DX11_condValue_182 h x0 x1 x2 M30 Q)) ∧
  ((mAI M b8 (x2 : Int32).toNatClampNeg) = 3 → ∃ b31 : Nat, mR M x0 90 = some b31 ∧ ∃ b32 : Nat, mR M x0 90 = some b32 ∧ ∃ b33 : Nat, mR M x0 22 = some b33 ∧ ok M b33 21 ∧ vp_in x2 (mL M b33) ∧ ok M b32 21 ∧ vp_in (mAI M b33 (x2 : Int32).toNatClampNeg) (mL M b32) ∧ ∃ b36 : Nat, mR M x0 90 = some b36 ∧ ∃ b37 : Nat, mR M x0 23 = some b37 ∧ ok M b37 21 ∧ vp_in x2 (mL M b37) ∧ ok M b36 21 ∧ vp_in (mAI M b37 (x2 : Int32).toNatClampNeg) (mL M b36) ∧ E h mdX11_both [.int (mAI M b32 (mAI M b33 (x2 : Int32).toNatClampNeg : Int32).toNatClampNeg), .int (mAI M b36 (mAI M b37 (x2 : Int32).toNatClampNeg : Int32).toNatClampNeg)] M (fun r M40 => mE M M40 → ∃ r41 : Int32, r = some (.int r41) ∧ ok M40 b31 21 ∧ vp_in x2 (mL M40 b31) ∧ ∀ M43 : Mem, M43 = wAI M40 b31 (x2 : Int32).toNatClampNeg r41 →
  DX11_condValue_182 h x0 x1 x2 M43 Q)) ∧
  (((mAI M b8 (x2 : Int32).toNatClampNeg : Int32).toInt < 0 ∨ 3 < (mAI M b8 (x2 : Int32).toNatClampNeg : Int32).toInt) → ∃ b44 : Nat, mR M x0 90 = some b44 ∧ ∃ b45 : Nat, mR M x0 90 = some b45 ∧ ∃ b46 : Nat, mR M x0 22 = some b46 ∧ ok M b46 21 ∧ vp_in x2 (mL M b46) ∧ ok M b45 21 ∧ vp_in (mAI M b46 (x2 : Int32).toNatClampNeg) (mL M b45) ∧ ∃ b49 : Nat, mR M x0 90 = some b49 ∧ ∃ b50 : Nat, mR M x0 23 = some b50 ∧ ok M b50 21 ∧ vp_in x2 (mL M b50) ∧ ok M b49 21 ∧ vp_in (mAI M b50 (x2 : Int32).toNatClampNeg) (mL M b49) ∧ E h mdX11_either [.int (mAI M b45 (mAI M b46 (x2 : Int32).toNatClampNeg : Int32).toNatClampNeg), .int (mAI M b49 (mAI M b50 (x2 : Int32).toNatClampNeg : Int32).toNatClampNeg)] M (fun r M53 => mE M M53 → ∃ r54 : Int32, r = some (.int r54) ∧ ok M53 b44 21 ∧ vp_in x2 (mL M53 b44) ∧ ∀ M56 : Mem, M56 = wAI M53 b44 (x2 : Int32).toNatClampNeg r54 →
  DX11_condValue_182 h x0 x1 x2 M56 Q)))
set_option maxRecDepth 20000 in
set_option maxHeartbeats 2000000 in
theorem VX11_condValue_7 {h : Nat} {x0 : Nat} {x1 : Int32} {x2 : Int32} {M : Mem} {Q : Option Value → Mem → Prop} (H : DX11_condValue_7 h x0 x1 x2 M Q) : T (h + 1) mdX11_condValue 7 [(0, .ref x0), (1, .int x1), (2, .int x2)] [] M Q := by
  unfold DX11_condValue_7 at H
  refine xt_iload_n (j := 2) dX11_condValue_7 rfl rfl ?_
  refine xt_aload_n (j := 0) dX11_condValue_8 rfl rfl ?_
  obtain ⟨ho1, H⟩ := H
  obtain ⟨b2, hb, H⟩ := H
  refine xt_getR dX11_condValue_9 (flX11_111 rfl) ft_13_43 ho1.1 ho1.2 hb ?_
  refine xt_iload_n (j := 1) dX11_condValue_12 rfl rfl ?_
  obtain ⟨ho3, H⟩ := H
  obtain ⟨hi, H⟩ := H
  refine xt_iald dX11_condValue_13 ho3.1 ho3.2 hi ?_
  refine xt_icmp_gt (tgt := 188) dX11_condValue_14 (by decide) (fun hc => ?_) (fun hc => ?_)
  · have H := H.1 hc
    refine xt_aload_n (j := 0) dX11_condValue_188 rfl rfl ?_
    obtain ⟨b4, hb, H⟩ := H
    refine xt_getR dX11_condValue_189 (flX11_225 rfl) ft_13_90 ho1.1 ho1.2 hb ?_
    refine xt_aload_n (j := 0) dX11_condValue_192 rfl rfl ?_
    obtain ⟨b5, hb, H⟩ := H
    refine xt_getR dX11_condValue_193 (flX11_111 rfl) ft_13_43 ho1.1 ho1.2 hb ?_
    refine xt_iload_n (j := 1) dX11_condValue_196 rfl rfl ?_
    obtain ⟨ho6, H⟩ := H
    obtain ⟨hi, H⟩ := H
    refine xt_iald dX11_condValue_197 ho6.1 ho6.2 hi ?_
    obtain ⟨ho7, H⟩ := H
    obtain ⟨hi, H⟩ := H
    refine xt_iald dX11_condValue_198 ho7.1 ho7.2 hi ?_
    exact xt_ireturn dX11_condValue_199 rfl H
  · have H := H.2 hc
    refine xt_aload_n (j := 0) dX11_condValue_17 rfl rfl ?_
    obtain ⟨b8, hb, H⟩ := H
    refine xt_getR dX11_condValue_18 (flX11_57 rfl) ft_13_21 ho1.1 ho1.2 hb ?_
    refine xt_iload_n (j := 2) dX11_condValue_21 rfl rfl ?_
    obtain ⟨ho9, H⟩ := H
    obtain ⟨hi, H⟩ := H
    refine xt_iald dX11_condValue_22 ho9.1 ho9.2 hi ?_
    by_cases hsw : (mAI M b8 (x2 : Int32).toNatClampNeg : Int32).toInt < 0 ∨ 3 < (mAI M b8 (x2 : Int32).toNatClampNeg : Int32).toInt
    · refine xt_tableOut (tgt := 151) dX11_condValue_23 hsw (by decide) ?_
      have H := H.2.2.2.2 hsw
      refine xt_aload_n (j := 0) dX11_condValue_151 rfl rfl ?_
      obtain ⟨b44, hb, H⟩ := H
      refine xt_getR dX11_condValue_152 (flX11_225 rfl) ft_13_90 ho1.1 ho1.2 hb ?_
      refine xt_iload_n (j := 2) dX11_condValue_155 rfl rfl ?_
      refine xt_aload_n (j := 0) dX11_condValue_156 rfl rfl ?_
      obtain ⟨b45, hb, H⟩ := H
      refine xt_getR dX11_condValue_157 (flX11_225 rfl) ft_13_90 ho1.1 ho1.2 hb ?_
      refine xt_aload_n (j := 0) dX11_condValue_160 rfl rfl ?_
      obtain ⟨b46, hb, H⟩ := H
      refine xt_getR dX11_condValue_161 (flX11_60 rfl) ft_13_22 ho1.1 ho1.2 hb ?_
      refine xt_iload_n (j := 2) dX11_condValue_164 rfl rfl ?_
      obtain ⟨ho47, H⟩ := H
      obtain ⟨hi, H⟩ := H
      refine xt_iald dX11_condValue_165 ho47.1 ho47.2 hi ?_
      obtain ⟨ho48, H⟩ := H
      obtain ⟨hi, H⟩ := H
      refine xt_iald dX11_condValue_166 ho48.1 ho48.2 hi ?_
      refine xt_aload_n (j := 0) dX11_condValue_167 rfl rfl ?_
      obtain ⟨b49, hb, H⟩ := H
      refine xt_getR dX11_condValue_168 (flX11_225 rfl) ft_13_90 ho1.1 ho1.2 hb ?_
      refine xt_aload_n (j := 0) dX11_condValue_171 rfl rfl ?_
      obtain ⟨b50, hb, H⟩ := H
      refine xt_getR dX11_condValue_172 (flX11_63 rfl) ft_13_23 ho1.1 ho1.2 hb ?_
      refine xt_iload_n (j := 2) dX11_condValue_175 rfl rfl ?_
      obtain ⟨ho51, H⟩ := H
      obtain ⟨hi, H⟩ := H
      refine xt_iald dX11_condValue_176 ho51.1 ho51.2 hi ?_
      obtain ⟨ho52, H⟩ := H
      obtain ⟨hi, H⟩ := H
      refine xt_iald dX11_condValue_177 ho52.1 ho52.2 hi ?_
      refine xt_callS (h2 := h) (as := [.int (mAI M b45 (mAI M b46 (x2 : Int32).toNatClampNeg : Int32).toNatClampNeg), .int (mAI M b49 (mAI M b50 (x2 : Int32).toNatClampNeg : Int32).toNatClampNeg)]) (st := [.int x2, .ref b44]) dX11_condValue_178 (mlX11_739 rfl) rfl (by first | decide | (simp [Value.category]; done)) (Nat.le_refl _) H (fun r M53 HH hE => ?_)
      obtain ⟨r54, hr, H⟩ := HH hE
      subst hr
      have ho1 := ok_E ho1 hE
      show T _ _ _ _ [.int r54, .int x2, .ref b44] _ _
      obtain ⟨ho55, H⟩ := H
      obtain ⟨hi, H⟩ := H
      obtain ⟨M56, eM56⟩ : ∃ z, z = wAI M53 b44 (x2 : Int32).toNatClampNeg r54 := ⟨_, rfl⟩
      have H := H _ eM56
      refine xt_iast dX11_condValue_181 ho55.1 ho55.2 hi ?_
      have ho1 : ok M56 x0 13 := by rw [eM56]; exact ho1
      rw [← eM56]
      exact xt_sub [0, 1, 2] rfl (VX11_condValue_182 H)
    · have hsw2 : (mAI M b8 (x2 : Int32).toNatClampNeg : Int32).toInt = 0 ∨ (mAI M b8 (x2 : Int32).toNatClampNeg : Int32).toInt = 1 ∨ (mAI M b8 (x2 : Int32).toNatClampNeg : Int32).toInt = 2 ∨ (mAI M b8 (x2 : Int32).toNatClampNeg : Int32).toInt = 3 := by omega
      rcases hsw2 with hv | hv | hv | hv
      · have hx : (mAI M b8 (x2 : Int32).toNatClampNeg) = 0 := i32_ofInt hv
        have H := H.1 hx
        refine xt_tableIn (tgt := 52) dX11_condValue_23 (by omega) (by omega) (by rw [hv]; rfl) (by decide) ?_
        refine xt_aload_n (j := 0) dX11_condValue_52 rfl rfl ?_
        obtain ⟨b10, hb, H⟩ := H
        refine xt_getR dX11_condValue_53 (flX11_225 rfl) ft_13_90 ho1.1 ho1.2 hb ?_
        refine xt_iload_n (j := 2) dX11_condValue_56 rfl rfl ?_
        refine xt_aload_n (j := 0) dX11_condValue_57 rfl rfl ?_
        obtain ⟨b11, hb, H⟩ := H
        refine xt_getR dX11_condValue_58 (flX11_222 rfl) ft_13_82 ho1.1 ho1.2 hb ?_
        refine xt_aload_n (j := 0) dX11_condValue_61 rfl rfl ?_
        obtain ⟨b12, hb, H⟩ := H
        refine xt_getR dX11_condValue_62 (flX11_60 rfl) ft_13_22 ho1.1 ho1.2 hb ?_
        refine xt_iload_n (j := 2) dX11_condValue_65 rfl rfl ?_
        obtain ⟨ho13, H⟩ := H
        obtain ⟨hi, H⟩ := H
        refine xt_iald dX11_condValue_66 ho13.1 ho13.2 hi ?_
        obtain ⟨ho14, H⟩ := H
        obtain ⟨hi, H⟩ := H
        refine xt_iald dX11_condValue_67 ho14.1 ho14.2 hi ?_
        obtain ⟨ho15, H⟩ := H
        obtain ⟨hi, H⟩ := H
        obtain ⟨M16, eM16⟩ : ∃ z, z = wAI M b10 (x2 : Int32).toNatClampNeg (mAI M b11 (mAI M b12 (x2 : Int32).toNatClampNeg : Int32).toNatClampNeg) := ⟨_, rfl⟩
        have H := H _ eM16
        refine xt_iast dX11_condValue_68 ho15.1 ho15.2 hi ?_
        have ho1 : ok M16 x0 13 := by rw [eM16]; exact ho1
        rw [← eM16]
        refine xt_goto (tgt := 182) dX11_condValue_69 (by decide) ?_
        exact xt_sub [0, 1, 2] rfl (VX11_condValue_182 H)
      · have hx : (mAI M b8 (x2 : Int32).toNatClampNeg) = 1 := i32_ofInt hv
        have H := H.2.1 hx
        refine xt_tableIn (tgt := 72) dX11_condValue_23 (by omega) (by omega) (by rw [hv]; rfl) (by decide) ?_
        refine xt_aload_n (j := 0) dX11_condValue_72 rfl rfl ?_
        obtain ⟨b17, hb, H⟩ := H
        refine xt_getR dX11_condValue_73 (flX11_225 rfl) ft_13_90 ho1.1 ho1.2 hb ?_
        refine xt_iload_n (j := 2) dX11_condValue_76 rfl rfl ?_
        refine xt_aload_n (j := 0) dX11_condValue_77 rfl rfl ?_
        refine xt_getI dX11_condValue_78 (flX11_730 rfl) ft_13_86 ho1.1 ho1.2 ?_
        refine xt_aload_n (j := 0) dX11_condValue_81 rfl rfl ?_
        obtain ⟨b18, hb, H⟩ := H
        refine xt_getR dX11_condValue_82 (flX11_60 rfl) ft_13_22 ho1.1 ho1.2 hb ?_
        refine xt_iload_n (j := 2) dX11_condValue_85 rfl rfl ?_
        obtain ⟨ho19, H⟩ := H
        obtain ⟨hi, H⟩ := H
        refine xt_iald dX11_condValue_86 ho19.1 ho19.2 hi ?_
        refine xt_ishr dX11_condValue_87 ?_
        refine xt_iconst (v := 1) dX11_condValue_88 (by decide) ?_
        refine xt_iand dX11_condValue_89 ?_
        obtain ⟨ho20, H⟩ := H
        obtain ⟨hi, H⟩ := H
        obtain ⟨M21, eM21⟩ : ∃ z, z = wAI M b17 (x2 : Int32).toNatClampNeg (((mI M x0 86) >>> ((mAI M b18 (x2 : Int32).toNatClampNeg) &&& 31)) &&& 1) := ⟨_, rfl⟩
        have H := H _ eM21
        refine xt_iast dX11_condValue_90 ho20.1 ho20.2 hi ?_
        have ho1 : ok M21 x0 13 := by rw [eM21]; exact ho1
        rw [← eM21]
        refine xt_goto (tgt := 182) dX11_condValue_91 (by decide) ?_
        exact xt_sub [0, 1, 2] rfl (VX11_condValue_182 H)
      · have hx : (mAI M b8 (x2 : Int32).toNatClampNeg) = 2 := i32_ofInt hv
        have H := H.2.2.1 hx
        refine xt_tableIn (tgt := 94) dX11_condValue_23 (by omega) (by omega) (by rw [hv]; rfl) (by decide) ?_
        refine xt_aload_n (j := 0) dX11_condValue_94 rfl rfl ?_
        obtain ⟨b22, hb, H⟩ := H
        refine xt_getR dX11_condValue_95 (flX11_225 rfl) ft_13_90 ho1.1 ho1.2 hb ?_
        refine xt_iload_n (j := 2) dX11_condValue_98 rfl rfl ?_
        refine xt_aload_n (j := 0) dX11_condValue_99 rfl rfl ?_
        obtain ⟨b23, hb, H⟩ := H
        refine xt_getR dX11_condValue_100 (flX11_225 rfl) ft_13_90 ho1.1 ho1.2 hb ?_
        refine xt_aload_n (j := 0) dX11_condValue_103 rfl rfl ?_
        obtain ⟨b24, hb, H⟩ := H
        refine xt_getR dX11_condValue_104 (flX11_60 rfl) ft_13_22 ho1.1 ho1.2 hb ?_
        refine xt_iload_n (j := 2) dX11_condValue_107 rfl rfl ?_
        obtain ⟨ho25, H⟩ := H
        obtain ⟨hi, H⟩ := H
        refine xt_iald dX11_condValue_108 ho25.1 ho25.2 hi ?_
        obtain ⟨ho26, H⟩ := H
        obtain ⟨hi, H⟩ := H
        refine xt_iald dX11_condValue_109 ho26.1 ho26.2 hi ?_
        refine xt_callS (h2 := h) (as := [.int (mAI M b23 (mAI M b24 (x2 : Int32).toNatClampNeg : Int32).toNatClampNeg)]) (st := [.int x2, .ref b22]) dX11_condValue_110 (mlX11_733 rfl) rfl (by first | decide | (simp [Value.category]; done)) (Nat.le_refl _) H (fun r M27 HH hE => ?_)
        obtain ⟨r28, hr, H⟩ := HH hE
        subst hr
        have ho1 := ok_E ho1 hE
        show T _ _ _ _ [.int r28, .int x2, .ref b22] _ _
        obtain ⟨ho29, H⟩ := H
        obtain ⟨hi, H⟩ := H
        obtain ⟨M30, eM30⟩ : ∃ z, z = wAI M27 b22 (x2 : Int32).toNatClampNeg r28 := ⟨_, rfl⟩
        have H := H _ eM30
        refine xt_iast dX11_condValue_113 ho29.1 ho29.2 hi ?_
        have ho1 : ok M30 x0 13 := by rw [eM30]; exact ho1
        rw [← eM30]
        refine xt_goto (tgt := 182) dX11_condValue_114 (by decide) ?_
        exact xt_sub [0, 1, 2] rfl (VX11_condValue_182 H)
      · have hx : (mAI M b8 (x2 : Int32).toNatClampNeg) = 3 := i32_ofInt hv
        have H := H.2.2.2.1 hx
        refine xt_tableIn (tgt := 117) dX11_condValue_23 (by omega) (by omega) (by rw [hv]; rfl) (by decide) ?_
        refine xt_aload_n (j := 0) dX11_condValue_117 rfl rfl ?_
        obtain ⟨b31, hb, H⟩ := H
        refine xt_getR dX11_condValue_118 (flX11_225 rfl) ft_13_90 ho1.1 ho1.2 hb ?_
        refine xt_iload_n (j := 2) dX11_condValue_121 rfl rfl ?_
        refine xt_aload_n (j := 0) dX11_condValue_122 rfl rfl ?_
        obtain ⟨b32, hb, H⟩ := H
        refine xt_getR dX11_condValue_123 (flX11_225 rfl) ft_13_90 ho1.1 ho1.2 hb ?_
        refine xt_aload_n (j := 0) dX11_condValue_126 rfl rfl ?_
        obtain ⟨b33, hb, H⟩ := H
        refine xt_getR dX11_condValue_127 (flX11_60 rfl) ft_13_22 ho1.1 ho1.2 hb ?_
        refine xt_iload_n (j := 2) dX11_condValue_130 rfl rfl ?_
        obtain ⟨ho34, H⟩ := H
        obtain ⟨hi, H⟩ := H
        refine xt_iald dX11_condValue_131 ho34.1 ho34.2 hi ?_
        obtain ⟨ho35, H⟩ := H
        obtain ⟨hi, H⟩ := H
        refine xt_iald dX11_condValue_132 ho35.1 ho35.2 hi ?_
        refine xt_aload_n (j := 0) dX11_condValue_133 rfl rfl ?_
        obtain ⟨b36, hb, H⟩ := H
        refine xt_getR dX11_condValue_134 (flX11_225 rfl) ft_13_90 ho1.1 ho1.2 hb ?_
        refine xt_aload_n (j := 0) dX11_condValue_137 rfl rfl ?_
        obtain ⟨b37, hb, H⟩ := H
        refine xt_getR dX11_condValue_138 (flX11_63 rfl) ft_13_23 ho1.1 ho1.2 hb ?_
        refine xt_iload_n (j := 2) dX11_condValue_141 rfl rfl ?_
        obtain ⟨ho38, H⟩ := H
        obtain ⟨hi, H⟩ := H
        refine xt_iald dX11_condValue_142 ho38.1 ho38.2 hi ?_
        obtain ⟨ho39, H⟩ := H
        obtain ⟨hi, H⟩ := H
        refine xt_iald dX11_condValue_143 ho39.1 ho39.2 hi ?_
        refine xt_callS (h2 := h) (as := [.int (mAI M b32 (mAI M b33 (x2 : Int32).toNatClampNeg : Int32).toNatClampNeg), .int (mAI M b36 (mAI M b37 (x2 : Int32).toNatClampNeg : Int32).toNatClampNeg)]) (st := [.int x2, .ref b31]) dX11_condValue_144 (mlX11_736 rfl) rfl (by first | decide | (simp [Value.category]; done)) (Nat.le_refl _) H (fun r M40 HH hE => ?_)
        obtain ⟨r41, hr, H⟩ := HH hE
        subst hr
        have ho1 := ok_E ho1 hE
        show T _ _ _ _ [.int r41, .int x2, .ref b31] _ _
        obtain ⟨ho42, H⟩ := H
        obtain ⟨hi, H⟩ := H
        obtain ⟨M43, eM43⟩ : ∃ z, z = wAI M40 b31 (x2 : Int32).toNatClampNeg r41 := ⟨_, rfl⟩
        have H := H _ eM43
        refine xt_iast dX11_condValue_147 ho42.1 ho42.2 hi ?_
        have ho1 : ok M43 x0 13 := by rw [eM43]; exact ho1
        rw [← eM43]
        refine xt_goto (tgt := 182) dX11_condValue_148 (by decide) ?_
        exact xt_sub [0, 1, 2] rfl (VX11_condValue_182 H)
def DX11_condValue_0 (h : Nat) (x0 : Nat) (x1 : Int32) (M : Mem) (Q : Option Value → Mem → Prop) : Prop :=
  ok M x0 13 ∧ ∃ b2 : Nat, mR M x0 42 = some b2 ∧ ok M b2 21 ∧ vp_in x1 (mL M b2) ∧ T (h + 1) mdX11_condValue 7 [(0, .ref x0), (1, .int x1), (2, .int (mAI M b2 (x1 : Int32).toNatClampNeg))] [] M Q
set_option maxRecDepth 20000 in
set_option maxHeartbeats 2000000 in
theorem VX11_condValue_0 {h : Nat} {x0 : Nat} {x1 : Int32} {M : Mem} {Q : Option Value → Mem → Prop} (H : DX11_condValue_0 h x0 x1 M Q) : T (h + 1) mdX11_condValue 0 [(0, .ref x0), (1, .int x1)] [] M Q := by
  unfold DX11_condValue_0 at H
  refine xt_aload_n (j := 0) dX11_condValue_0 rfl rfl ?_
  obtain ⟨ho1, H⟩ := H
  obtain ⟨b2, hb, H⟩ := H
  refine xt_getR dX11_condValue_1 (flX11_108 rfl) ft_13_42 ho1.1 ho1.2 hb ?_
  refine xt_iload_n (j := 1) dX11_condValue_4 rfl rfl ?_
  obtain ⟨ho3, H⟩ := H
  obtain ⟨hi, H⟩ := H
  refine xt_iald dX11_condValue_5 ho3.1 ho3.2 hi ?_
  refine xt_istore_n (lv' := [(2, .int (mAI M b2 (x1 : Int32).toNatClampNeg)), (0, .ref x0), (1, .int x1)]) dX11_condValue_6 rfl (by decide) rfl ?_
  exact xt_sub (lv' := [(0, .ref x0), (1, .int x1), (2, .int (mAI M b2 (x1 : Int32).toNatClampNeg))]) [1, 2, 0] rfl H
theorem KX11_condValue {h : Nat} {x0 : Nat} {x1 : Int32} {M : Mem} {Q : Option Value → Mem → Prop} (H : DX11_condValue_0 h x0 x1 M Q) : E (h + 1) mdX11_condValue [.ref x0, .int x1] M Q := E.of (by decide) (Nat.le_of_ble_eq_true rfl) (fun _ _ _ => trivial) (VX11_condValue_0 H)
def DX11_k_0 (h : Nat) (x0 : Nat) (x1 : Int32) (x2 : Int32) (M : Mem) (Q : Option Value → Mem → Prop) : Prop :=
  ok M x0 13 ∧ ∃ b2 : Nat, mR M x0 81 = some b2 ∧ ok M b2 21 ∧ vp_in ((24 * (x1 - (700 * (mI M x0 84)))) + x2) (mL M b2) ∧ Q (some (.int (mAI M b2 ((24 * (x1 - (700 * (mI M x0 84)))) + x2 : Int32).toNatClampNeg))) M
set_option maxRecDepth 20000 in
set_option maxHeartbeats 2000000 in
theorem VX11_k_0 {h : Nat} {x0 : Nat} {x1 : Int32} {x2 : Int32} {M : Mem} {Q : Option Value → Mem → Prop} (H : DX11_k_0 h x0 x1 x2 M Q) : T (h + 1) mdX11_k 0 [(0, .ref x0), (1, .int x1), (2, .int x2)] [] M Q := by
  unfold DX11_k_0 at H
  refine xt_aload_n (j := 0) dX11_k_0 rfl rfl ?_
  obtain ⟨ho1, H⟩ := H
  obtain ⟨b2, hb, H⟩ := H
  refine xt_getR dX11_k_1 (flX11_219 rfl) ft_13_81 ho1.1 ho1.2 hb ?_
  refine xt_bipush (v := 24) dX11_k_4 (by decide) ?_
  refine xt_iload_n (j := 1) dX11_k_6 rfl rfl ?_
  refine xt_sipush (v := 700) dX11_k_7 (by decide) ?_
  refine xt_aload_n (j := 0) dX11_k_10 rfl rfl ?_
  refine xt_getI dX11_k_11 (flX11_742 rfl) ft_13_84 ho1.1 ho1.2 ?_
  refine xt_imul dX11_k_14 ?_
  refine xt_isub dX11_k_15 ?_
  refine xt_imul dX11_k_16 ?_
  refine xt_iload_n (j := 2) dX11_k_17 rfl rfl ?_
  refine xt_iadd dX11_k_18 ?_
  obtain ⟨ho3, H⟩ := H
  obtain ⟨hi, H⟩ := H
  refine xt_iald dX11_k_19 ho3.1 ho3.2 hi ?_
  exact xt_ireturn dX11_k_20 rfl H
theorem KX11_k {h : Nat} {x0 : Nat} {x1 : Int32} {x2 : Int32} {M : Mem} {Q : Option Value → Mem → Prop} (H : DX11_k_0 h x0 x1 x2 M Q) : E (h + 1) mdX11_k [.ref x0, .int x1, .int x2] M Q := E.of (by decide) (Nat.le_of_ble_eq_true rfl) (fun _ _ _ => trivial) (VX11_k_0 H)
def DX11_known_16 (h : Nat) (M : Mem) (Q : Option Value → Mem → Prop) : Prop :=
  Q none M
set_option maxRecDepth 20000 in
set_option maxHeartbeats 2000000 in
theorem VX11_known_16 {h : Nat} {M : Mem} {Q : Option Value → Mem → Prop} (H : DX11_known_16 h  M Q) : T (h + 1) mdX11_known 16 [] [] M Q := by
  unfold DX11_known_16 at H
  exact xt_return dX11_known_16 rfl H
def DX11_known_0 (h : Nat) (x0 : Nat) (x1 : Nat) (x2 : Int32) (x3 : Int32) (M : Mem) (Q : Option Value → Mem → Prop) : Prop :=
  ok M x1 21 ∧ vp_in x2 (mL M x1) ∧ ((mAI M x1 (x2 : Int32).toNatClampNeg) = x3 → DX11_known_16 h  M Q) ∧
  (¬ ((mAI M x1 (x2 : Int32).toNatClampNeg) = x3) → vp_in x2 (mL M x1) ∧ ∀ M2 : Mem, M2 = wAI M x1 (x2 : Int32).toNatClampNeg x3 →
  ok M2 x0 13 ∧ ((1 : Int32) = 0 ∨ (1 : Int32) = 1) ∧ ∀ M4 : Mem, M4 = wI M2 x0 83 1 →
  DX11_known_16 h  M4 Q)
set_option maxRecDepth 20000 in
set_option maxHeartbeats 2000000 in
theorem VX11_known_0 {h : Nat} {x0 : Nat} {x1 : Nat} {x2 : Int32} {x3 : Int32} {M : Mem} {Q : Option Value → Mem → Prop} (H : DX11_known_0 h x0 x1 x2 x3 M Q) : T (h + 1) mdX11_known 0 [(0, .ref x0), (1, .ref x1), (2, .int x2), (3, .int x3)] [] M Q := by
  unfold DX11_known_0 at H
  refine xt_aload_n (j := 1) dX11_known_0 rfl rfl ?_
  refine xt_iload_n (j := 2) dX11_known_1 rfl rfl ?_
  obtain ⟨ho1, H⟩ := H
  obtain ⟨hi, H⟩ := H
  refine xt_iald dX11_known_2 ho1.1 ho1.2 hi ?_
  refine xt_iload_n (j := 3) dX11_known_3 rfl rfl ?_
  refine xt_icmp_eq (tgt := 16) dX11_known_4 (by decide) (fun hc => ?_) (fun hc => ?_)
  · have H := H.1 hc
    exact xt_sub [] rfl (VX11_known_16 H)
  · have H := H.2 hc
    refine xt_aload_n (j := 1) dX11_known_7 rfl rfl ?_
    refine xt_iload_n (j := 2) dX11_known_8 rfl rfl ?_
    refine xt_iload_n (j := 3) dX11_known_9 rfl rfl ?_
    obtain ⟨hi, H⟩ := H
    obtain ⟨M2, eM2⟩ : ∃ z, z = wAI M x1 (x2 : Int32).toNatClampNeg x3 := ⟨_, rfl⟩
    have H := H _ eM2
    refine xt_iast dX11_known_10 ho1.1 ho1.2 hi ?_
    have ho1 : ok M2 x1 21 := by rw [eM2]; exact ho1
    rw [← eM2]
    refine xt_aload_n (j := 0) dX11_known_11 rfl rfl ?_
    refine xt_iconst (v := 1) dX11_known_12 (by decide) ?_
    obtain ⟨ho3, H⟩ := H
    obtain ⟨hz, H⟩ := H
    obtain ⟨M4, eM4⟩ : ∃ z, z = wI M2 x0 83 1 := ⟨_, rfl⟩
    have H := H _ eM4
    refine xt_putZ dX11_known_13 (flX11_745 rfl) ty_13_83 rfl ho3.1 ho3.2 hz ?_
    have ho1 : ok M4 x1 21 := by rw [eM4]; exact ho1
    have ho3 : ok M4 x0 13 := by rw [eM4]; exact ho3
    rw [← eM4]
    exact xt_sub [] rfl (VX11_known_16 H)
theorem KX11_known {h : Nat} {x0 : Nat} {x1 : Nat} {x2 : Int32} {x3 : Int32} {M : Mem} {Q : Option Value → Mem → Prop} (H : DX11_known_0 h x0 x1 x2 x3 M Q) : E (h + 1) mdX11_known [.ref x0, .ref x1, .int x2, .int x3] M Q := E.of (by decide) (Nat.le_of_ble_eq_true rfl) (fun _ _ _ => trivial) (VX11_known_0 H)
def DX11_ifAt_32 (h : Nat) (x0 : Nat) (x1 : Int32) (x3 : Int32) (s0 : Int32) (s1 : Int32) (M : Mem) (Q : Option Value → Mem → Prop) : Prop :=
  T (h + 1) mdX11_ifAt 10 [(0, .ref x0), (1, .int x1), (2, .int (s0 + s1)), (3, .int (x3 + 1))] [] M Q
set_option maxRecDepth 20000 in
set_option maxHeartbeats 2000000 in
theorem VX11_ifAt_32 {h : Nat} {x0 : Nat} {x1 : Int32} {x3 : Int32} {s0 : Int32} {s1 : Int32} {M : Mem} {Q : Option Value → Mem → Prop} (H : DX11_ifAt_32 h x0 x1 x3 s0 s1 M Q) : T (h + 1) mdX11_ifAt 32 [(0, .ref x0), (1, .int x1), (3, .int x3)] [.int s1, .int s0] M Q := by
  unfold DX11_ifAt_32 at H
  refine xt_iadd dX11_ifAt_32 ?_
  refine xt_istore_n (lv' := [(2, .int (s0 + s1)), (0, .ref x0), (1, .int x1), (3, .int x3)]) dX11_ifAt_33 rfl (by decide) rfl ?_
  refine xt_iinc (j := 3) (v := x3 + 1) (lv' := [(3, .int (x3 + 1)), (2, .int (s0 + s1)), (0, .ref x0), (1, .int x1)]) dX11_ifAt_34 rfl (by rfl) (by decide) rfl ?_
  refine xt_goto (tgt := 10) dX11_ifAt_37 (by decide) ?_
  exact xt_sub (lv' := [(0, .ref x0), (1, .int x1), (2, .int (s0 + s1)), (3, .int (x3 + 1))]) [2, 3, 1, 0] rfl H
def DX11_ifAt_10 (h : Nat) (x0 : Nat) (x1 : Int32) (x2 : Int32) (x3 : Int32) (M : Mem) (Q : Option Value → Mem → Prop) : Prop :=
  (x1 ≤ x3 → ok M x0 13 ∧ Q (some (.int (((mI M x0 88) >>> (x2 &&& 31)) &&& 1))) M) ∧
  (¬ (x1 ≤ x3) → ok M x0 13 ∧ ∃ b3 : Nat, mR M x0 38 = some b3 ∧ ok M b3 21 ∧ vp_in x3 (mL M b3) ∧ (¬ (mAI M b3 (x3 : Int32).toNatClampNeg) = 14 → DX11_ifAt_32 h x0 x1 x3 x2 0 M Q) ∧
  ((mAI M b3 (x3 : Int32).toNatClampNeg) = 14 → DX11_ifAt_32 h x0 x1 x3 x2 1 M Q))
set_option maxRecDepth 20000 in
set_option maxHeartbeats 2000000 in
theorem VX11_ifAt_10 {h : Nat} {x0 : Nat} {x1 : Int32} {x2 : Int32} {x3 : Int32} {M : Mem} {Q : Option Value → Mem → Prop} (H : DX11_ifAt_10 h x0 x1 x2 x3 M Q) : T (h + 1) mdX11_ifAt 10 [(0, .ref x0), (1, .int x1), (2, .int x2), (3, .int x3)] [] M Q := by
  unfold DX11_ifAt_10 at H
  refine xt_iload_n (j := 3) dX11_ifAt_10 rfl rfl ?_
  refine xt_iload_n (j := 1) dX11_ifAt_11 rfl rfl ?_
  refine xt_icmp_ge (tgt := 40) dX11_ifAt_12 (by decide) (fun hc => ?_) (fun hc => ?_)
  · have H := H.1 hc
    refine xt_aload_n (j := 0) dX11_ifAt_40 rfl rfl ?_
    obtain ⟨ho1, H⟩ := H
    refine xt_getI dX11_ifAt_41 (flX11_749 rfl) ft_13_88 ho1.1 ho1.2 ?_
    refine xt_iload_n (j := 2) dX11_ifAt_44 rfl rfl ?_
    refine xt_ishr dX11_ifAt_45 ?_
    refine xt_iconst (v := 1) dX11_ifAt_46 (by decide) ?_
    refine xt_iand dX11_ifAt_47 ?_
    exact xt_ireturn dX11_ifAt_48 rfl H
  · have H := H.2 hc
    refine xt_iload_n (j := 2) dX11_ifAt_15 rfl rfl ?_
    refine xt_aload_n (j := 0) dX11_ifAt_16 rfl rfl ?_
    obtain ⟨ho2, H⟩ := H
    obtain ⟨b3, hb, H⟩ := H
    refine xt_getR dX11_ifAt_17 (flX11_96 rfl) ft_13_38 ho2.1 ho2.2 hb ?_
    refine xt_iload_n (j := 3) dX11_ifAt_20 rfl rfl ?_
    obtain ⟨ho4, H⟩ := H
    obtain ⟨hi, H⟩ := H
    refine xt_iald dX11_ifAt_21 ho4.1 ho4.2 hi ?_
    refine xt_bipush (v := 14) dX11_ifAt_22 (by decide) ?_
    refine xt_icmp_ne (tgt := 31) dX11_ifAt_24 (by decide) (fun hc => ?_) (fun hc => ?_)
    · have H := H.1 hc
      refine xt_iconst (v := 0) dX11_ifAt_31 (by decide) ?_
      exact xt_sub [0, 1, 3] rfl (VX11_ifAt_32 H)
    · have H := H.2 hc
      refine xt_iconst (v := 1) dX11_ifAt_27 (by decide) ?_
      refine xt_goto (tgt := 32) dX11_ifAt_28 (by decide) ?_
      exact xt_sub [0, 1, 3] rfl (VX11_ifAt_32 H)
def DX11_ifAt_0 (h : Nat) (x0 : Nat) (x1 : Int32) (M : Mem) (Q : Option Value → Mem → Prop) : Prop :=
  ok M x0 13 ∧ T (h + 1) mdX11_ifAt 10 [(0, .ref x0), (1, .int x1), (2, .int 0), (3, .int (40 * (mI M x0 84)))] [] M Q
set_option maxRecDepth 20000 in
set_option maxHeartbeats 2000000 in
theorem VX11_ifAt_0 {h : Nat} {x0 : Nat} {x1 : Int32} {M : Mem} {Q : Option Value → Mem → Prop} (H : DX11_ifAt_0 h x0 x1 M Q) : T (h + 1) mdX11_ifAt 0 [(0, .ref x0), (1, .int x1)] [] M Q := by
  unfold DX11_ifAt_0 at H
  refine xt_iconst (v := 0) dX11_ifAt_0 (by decide) ?_
  refine xt_istore_n (lv' := [(2, .int 0), (0, .ref x0), (1, .int x1)]) dX11_ifAt_1 rfl (by decide) rfl ?_
  refine xt_bipush (v := 40) dX11_ifAt_2 (by decide) ?_
  refine xt_aload_n (j := 1) dX11_ifAt_4 rfl rfl ?_
  obtain ⟨ho1, H⟩ := H
  refine xt_getI dX11_ifAt_5 (flX11_742 rfl) ft_13_84 ho1.1 ho1.2 ?_
  refine xt_imul dX11_ifAt_8 ?_
  refine xt_istore_n (lv' := [(3, .int (40 * (mI M x0 84))), (2, .int 0), (0, .ref x0), (1, .int x1)]) dX11_ifAt_9 rfl (by decide) rfl ?_
  exact xt_sub (lv' := [(0, .ref x0), (1, .int x1), (2, .int 0), (3, .int (40 * (mI M x0 84)))]) [2, 3, 1, 0] rfl H
theorem KX11_ifAt {h : Nat} {x0 : Nat} {x1 : Int32} {M : Mem} {Q : Option Value → Mem → Prop} (H : DX11_ifAt_0 h x0 x1 M Q) : E (h + 1) mdX11_ifAt [.ref x0, .int x1] M Q := E.of (by decide) (Nat.le_of_ble_eq_true rfl) (fun _ _ _ => trivial) (VX11_ifAt_0 H)
def DX11_enter_423 (h : Nat) (M : Mem) (Q : Option Value → Mem → Prop) : Prop :=
  Q none M
set_option maxRecDepth 20000 in
set_option maxHeartbeats 2000000 in
theorem VX11_enter_423 {h : Nat} {M : Mem} {Q : Option Value → Mem → Prop} (H : DX11_enter_423 h  M Q) : T (h + 1) mdX11_enter 423 [] [] M Q := by
  unfold DX11_enter_423 at H
  exact xt_return dX11_enter_423 rfl H
def DX11_enter_343 (h : Nat) (x0 : Nat) (x1 : Int32) (x2 : Int32) (x4 : Int32) (x5 : Int32) (x6 : Int32) (x7 : Int32) (M : Mem) (Q : Option Value → Mem → Prop) : Prop :=
  ok M x0 13 ∧ ∃ b2 : Nat, mR M x0 77 = some b2 ∧ E h mdX11_known [.ref x0, .ref b2, .int x2, .int x4] M (fun r M3 => mE M M3 → r = none ∧ ∃ b4 : Nat, mR M3 x0 78 = some b4 ∧ E h mdX11_known [.ref x0, .ref b4, .int x2, .int x5] M3 (fun r M5 => mE M3 M5 → r = none ∧ ∃ b6 : Nat, mR M5 x0 79 = some b6 ∧ E h mdX11_known [.ref x0, .ref b6, .int x2, .int x6] M5 (fun r M7 => mE M5 M7 → r = none ∧ ∃ b8 : Nat, mR M7 x0 80 = some b8 ∧ E h mdX11_known [.ref x0, .ref b8, .int x2, .int x7] M7 (fun r M9 => mE M7 M9 → r = none ∧ ∃ b10 : Nat, mR M9 x0 62 = some b10 ∧ ok M9 b10 21 ∧ vp_in x1 (mL M9 b10) ∧ (¬ (mAI M9 b10 (x1 : Int32).toNatClampNeg) = 1 → DX11_enter_423 h  M9 Q) ∧
  ((mAI M9 b10 (x1 : Int32).toNatClampNeg) = 1 → (¬ x4 = 1 → DX11_enter_423 h  M9 Q) ∧
  (x4 = 1 → ∃ b12 : Nat, mR M9 x0 82 = some b12 ∧ ∃ b13 : Nat, mR M9 x0 40 = some b13 ∧ ∃ b14 : Nat, mR M9 x0 63 = some b14 ∧ ok M9 b14 21 ∧ vp_in x1 (mL M9 b14) ∧ ok M9 b13 21 ∧ vp_in (mAI M9 b14 (x1 : Int32).toNatClampNeg) (mL M9 b13) ∧ E h mdX11_known [.ref x0, .ref b12, .int (mAI M9 b13 (mAI M9 b14 (x1 : Int32).toNatClampNeg : Int32).toNatClampNeg), .int 1] M9 (fun r M17 => mE M9 M17 → r = none ∧ DX11_enter_423 h  M17 Q)))))))
set_option maxRecDepth 20000 in
set_option maxHeartbeats 2000000 in
theorem VX11_enter_343 {h : Nat} {x0 : Nat} {x1 : Int32} {x2 : Int32} {x4 : Int32} {x5 : Int32} {x6 : Int32} {x7 : Int32} {M : Mem} {Q : Option Value → Mem → Prop} (H : DX11_enter_343 h x0 x1 x2 x4 x5 x6 x7 M Q) : T (h + 1) mdX11_enter 343 [(0, .ref x0), (1, .int x1), (2, .int x2), (4, .int x4), (5, .int x5), (6, .int x6), (7, .int x7)] [] M Q := by
  unfold DX11_enter_343 at H
  refine xt_aload_n (j := 0) dX11_enter_343 rfl rfl ?_
  refine xt_aload_n (j := 0) dX11_enter_344 rfl rfl ?_
  obtain ⟨ho1, H⟩ := H
  obtain ⟨b2, hb, H⟩ := H
  refine xt_getR dX11_enter_345 (flX11_207 rfl) ft_13_77 ho1.1 ho1.2 hb ?_
  refine xt_iload_n (j := 2) dX11_enter_348 rfl rfl ?_
  refine xt_iload (j := 3) dX11_enter_349 rfl ?_
  refine xt_callV (h2 := h) (as := [.ref b2, .int x2, .int x4]) (st := []) dX11_enter_351 (mlX11_767 rfl) rfl ho1.1 ⟨by rw [ho1.2]; rfl, by rw [ho1.2]; decide⟩ (by first | decide | (simp [Value.category]; done)) (Nat.le_refl _) H (fun r M3 HH hE => ?_)
  obtain ⟨hr, H⟩ := HH hE
  subst hr
  have ho1 := ok_E ho1 hE
  show T _ _ _ _ [] _ _
  refine xt_aload_n (j := 0) dX11_enter_354 rfl rfl ?_
  refine xt_aload_n (j := 0) dX11_enter_355 rfl rfl ?_
  obtain ⟨b4, hb, H⟩ := H
  refine xt_getR dX11_enter_356 (flX11_210 rfl) ft_13_78 ho1.1 ho1.2 hb ?_
  refine xt_iload_n (j := 2) dX11_enter_359 rfl rfl ?_
  refine xt_iload (j := 4) dX11_enter_360 rfl ?_
  refine xt_callV (h2 := h) (as := [.ref b4, .int x2, .int x5]) (st := []) dX11_enter_362 (mlX11_767 rfl) rfl ho1.1 ⟨by rw [ho1.2]; rfl, by rw [ho1.2]; decide⟩ (by first | decide | (simp [Value.category]; done)) (Nat.le_refl _) H (fun r M5 HH hE => ?_)
  obtain ⟨hr, H⟩ := HH hE
  subst hr
  have ho1 := ok_E ho1 hE
  show T _ _ _ _ [] _ _
  refine xt_aload_n (j := 0) dX11_enter_365 rfl rfl ?_
  refine xt_aload_n (j := 0) dX11_enter_366 rfl rfl ?_
  obtain ⟨b6, hb, H⟩ := H
  refine xt_getR dX11_enter_367 (flX11_213 rfl) ft_13_79 ho1.1 ho1.2 hb ?_
  refine xt_iload_n (j := 2) dX11_enter_370 rfl rfl ?_
  refine xt_iload (j := 5) dX11_enter_371 rfl ?_
  refine xt_callV (h2 := h) (as := [.ref b6, .int x2, .int x6]) (st := []) dX11_enter_373 (mlX11_767 rfl) rfl ho1.1 ⟨by rw [ho1.2]; rfl, by rw [ho1.2]; decide⟩ (by first | decide | (simp [Value.category]; done)) (Nat.le_refl _) H (fun r M7 HH hE => ?_)
  obtain ⟨hr, H⟩ := HH hE
  subst hr
  have ho1 := ok_E ho1 hE
  show T _ _ _ _ [] _ _
  refine xt_aload_n (j := 0) dX11_enter_376 rfl rfl ?_
  refine xt_aload_n (j := 0) dX11_enter_377 rfl rfl ?_
  obtain ⟨b8, hb, H⟩ := H
  refine xt_getR dX11_enter_378 (flX11_216 rfl) ft_13_80 ho1.1 ho1.2 hb ?_
  refine xt_iload_n (j := 2) dX11_enter_381 rfl rfl ?_
  refine xt_iload (j := 6) dX11_enter_382 rfl ?_
  refine xt_callV (h2 := h) (as := [.ref b8, .int x2, .int x7]) (st := []) dX11_enter_384 (mlX11_767 rfl) rfl ho1.1 ⟨by rw [ho1.2]; rfl, by rw [ho1.2]; decide⟩ (by first | decide | (simp [Value.category]; done)) (Nat.le_refl _) H (fun r M9 HH hE => ?_)
  obtain ⟨hr, H⟩ := HH hE
  subst hr
  have ho1 := ok_E ho1 hE
  show T _ _ _ _ [] _ _
  refine xt_aload_n (j := 0) dX11_enter_387 rfl rfl ?_
  obtain ⟨b10, hb, H⟩ := H
  refine xt_getR dX11_enter_388 (flX11_162 rfl) ft_13_62 ho1.1 ho1.2 hb ?_
  refine xt_iload_n (j := 1) dX11_enter_391 rfl rfl ?_
  obtain ⟨ho11, H⟩ := H
  obtain ⟨hi, H⟩ := H
  refine xt_iald dX11_enter_392 ho11.1 ho11.2 hi ?_
  refine xt_iconst (v := 1) dX11_enter_393 (by decide) ?_
  refine xt_icmp_ne (tgt := 423) dX11_enter_394 (by decide) (fun hc => ?_) (fun hc => ?_)
  · have H := H.1 hc
    exact xt_sub [] rfl (VX11_enter_423 H)
  · have H := H.2 hc
    refine xt_iload (j := 3) dX11_enter_397 rfl ?_
    refine xt_iconst (v := 1) dX11_enter_399 (by decide) ?_
    refine xt_icmp_ne (tgt := 423) dX11_enter_400 (by decide) (fun hc => ?_) (fun hc => ?_)
    · have H := H.1 hc
      exact xt_sub [] rfl (VX11_enter_423 H)
    · have H := H.2 hc
      refine xt_aload_n (j := 0) dX11_enter_403 rfl rfl ?_
      refine xt_aload_n (j := 0) dX11_enter_404 rfl rfl ?_
      obtain ⟨b12, hb, H⟩ := H
      refine xt_getR dX11_enter_405 (flX11_222 rfl) ft_13_82 ho1.1 ho1.2 hb ?_
      refine xt_aload_n (j := 0) dX11_enter_408 rfl rfl ?_
      obtain ⟨b13, hb, H⟩ := H
      refine xt_getR dX11_enter_409 (flX11_102 rfl) ft_13_40 ho1.1 ho1.2 hb ?_
      refine xt_aload_n (j := 0) dX11_enter_412 rfl rfl ?_
      obtain ⟨b14, hb, H⟩ := H
      refine xt_getR dX11_enter_413 (flX11_165 rfl) ft_13_63 ho1.1 ho1.2 hb ?_
      refine xt_iload_n (j := 1) dX11_enter_416 rfl rfl ?_
      obtain ⟨ho15, H⟩ := H
      obtain ⟨hi, H⟩ := H
      refine xt_iald dX11_enter_417 ho15.1 ho15.2 hi ?_
      obtain ⟨ho16, H⟩ := H
      obtain ⟨hi, H⟩ := H
      refine xt_iald dX11_enter_418 ho16.1 ho16.2 hi ?_
      refine xt_iconst (v := 1) dX11_enter_419 (by decide) ?_
      refine xt_callV (h2 := h) (as := [.ref b12, .int (mAI M9 b13 (mAI M9 b14 (x1 : Int32).toNatClampNeg : Int32).toNatClampNeg), .int 1]) (st := []) dX11_enter_420 (mlX11_767 rfl) rfl ho1.1 ⟨by rw [ho1.2]; rfl, by rw [ho1.2]; decide⟩ (by first | decide | (simp [Value.category]; done)) (Nat.le_refl _) H (fun r M17 HH hE => ?_)
      obtain ⟨hr, H⟩ := HH hE
      subst hr
      have ho1 := ok_E ho1 hE
      show T _ _ _ _ [] _ _
      exact xt_sub [] rfl (VX11_enter_423 H)
def DX11_enter_209 (h : Nat) (x0 : Nat) (x1 : Int32) (x2 : Int32) (x5 : Int32) (x6 : Int32) (x7 : Int32) (s0 : Int32) (s1 : Int32) (M : Mem) (Q : Option Value → Mem → Prop) : Prop :=
  E h mdX11_both [.int s0, .int s1] M (fun r M1 => mE M M1 → ∃ r2 : Int32, r = some (.int r2) ∧ DX11_enter_343 h x0 x1 x2 r2 x5 x6 x7 M1 Q)
set_option maxRecDepth 20000 in
set_option maxHeartbeats 2000000 in
theorem VX11_enter_209 {h : Nat} {x0 : Nat} {x1 : Int32} {x2 : Int32} {x5 : Int32} {x6 : Int32} {x7 : Int32} {s0 : Int32} {s1 : Int32} {M : Mem} {Q : Option Value → Mem → Prop} (H : DX11_enter_209 h x0 x1 x2 x5 x6 x7 s0 s1 M Q) : T (h + 1) mdX11_enter 209 [(0, .ref x0), (1, .int x1), (2, .int x2), (5, .int x5), (6, .int x6), (7, .int x7)] [.int s1, .int s0] M Q := by
  unfold DX11_enter_209 at H
  refine xt_callS (h2 := h) (as := [.int s0, .int s1]) (st := []) dX11_enter_209 (mlX11_736 rfl) rfl (by first | decide | (simp [Value.category]; done)) (Nat.le_refl _) H (fun r M1 HH hE => ?_)
  obtain ⟨r2, hr, H⟩ := HH hE
  subst hr
  show T _ _ _ _ [.int r2] _ _
  refine xt_istore (lv' := [(4, .int r2), (0, .ref x0), (1, .int x1), (2, .int x2), (5, .int x5), (6, .int x6), (7, .int x7)]) dX11_enter_212 (by decide) rfl ?_
  refine xt_goto (tgt := 343) dX11_enter_214 (by decide) ?_
  exact xt_sub [1, 2, 3, 0, 4, 5, 6] rfl (VX11_enter_343 H)
def DX11_enter_185 (h : Nat) (x0 : Nat) (x1 : Int32) (x2 : Int32) (x4 : Int32) (x5 : Int32) (x6 : Int32) (x7 : Int32) (s0 : Int32) (M : Mem) (Q : Option Value → Mem → Prop) : Prop :=
  ok M x0 13 ∧ ∃ b2 : Nat, mR M x0 67 = some b2 ∧ ok M b2 21 ∧ vp_in x1 (mL M b2) ∧ (¬ (mAI M b2 (x1 : Int32).toNatClampNeg) = (-1) → E h mdX11_other [.int s0] M (fun r M4 => mE M M4 → ∃ r5 : Int32, r = some (.int r5) ∧ DX11_enter_209 h x0 x1 x2 x5 x6 x7 x4 r5 M4 Q)) ∧
  ((mAI M b2 (x1 : Int32).toNatClampNeg) = (-1) → DX11_enter_209 h x0 x1 x2 x5 x6 x7 x4 s0 M Q)
set_option maxRecDepth 20000 in
set_option maxHeartbeats 2000000 in
theorem VX11_enter_185 {h : Nat} {x0 : Nat} {x1 : Int32} {x2 : Int32} {x4 : Int32} {x5 : Int32} {x6 : Int32} {x7 : Int32} {s0 : Int32} {M : Mem} {Q : Option Value → Mem → Prop} (H : DX11_enter_185 h x0 x1 x2 x4 x5 x6 x7 s0 M Q) : T (h + 1) mdX11_enter 185 [(0, .ref x0), (1, .int x1), (2, .int x2), (4, .int x4), (5, .int x5), (6, .int x6), (7, .int x7)] [.int s0] M Q := by
  unfold DX11_enter_185 at H
  refine xt_istore (lv' := [(9, .int s0), (0, .ref x0), (1, .int x1), (2, .int x2), (4, .int x4), (5, .int x5), (6, .int x6), (7, .int x7)]) dX11_enter_185 (by decide) rfl ?_
  refine xt_iload (j := 4) dX11_enter_187 rfl ?_
  refine xt_aload_n (j := 1) dX11_enter_189 rfl rfl ?_
  obtain ⟨ho1, H⟩ := H
  obtain ⟨b2, hb, H⟩ := H
  refine xt_getR dX11_enter_190 (flX11_177 rfl) ft_13_67 ho1.1 ho1.2 hb ?_
  refine xt_iload_n (j := 2) dX11_enter_193 rfl rfl ?_
  obtain ⟨ho3, H⟩ := H
  obtain ⟨hi, H⟩ := H
  refine xt_iald dX11_enter_194 ho3.1 ho3.2 hi ?_
  refine xt_iconst (v := -1) dX11_enter_195 (by decide) ?_
  refine xt_icmp_ne (tgt := 204) dX11_enter_196 (by decide) (fun hc => ?_) (fun hc => ?_)
  · have H := H.1 hc
    refine xt_iload (j := 0) dX11_enter_204 rfl ?_
    refine xt_callS (h2 := h) (as := [.int s0]) (st := [.int x4]) dX11_enter_206 (mlX11_733 rfl) rfl (by first | decide | (simp [Value.category]; done)) (Nat.le_refl _) H (fun r M4 HH hE => ?_)
    obtain ⟨r5, hr, H⟩ := HH hE
    subst hr
    have ho1 := ok_E ho1 hE
    show T _ _ _ _ [.int r5, .int x4] _ _
    exact xt_sub [1, 2, 3, 5, 6, 7] rfl (VX11_enter_209 H)
  · have H := H.2 hc
    refine xt_iload (j := 0) dX11_enter_199 rfl ?_
    refine xt_goto (tgt := 209) dX11_enter_201 (by decide) ?_
    exact xt_sub [1, 2, 3, 5, 6, 7] rfl (VX11_enter_209 H)
def DX11_enter_243 (h : Nat) (x0 : Nat) (x1 : Int32) (x2 : Int32) (x5 : Int32) (x6 : Int32) (x7 : Int32) (s0 : Int32) (M : Mem) (Q : Option Value → Mem → Prop) : Prop :=
  DX11_enter_343 h x0 x1 x2 s0 x5 x6 x7 M Q
set_option maxRecDepth 20000 in
set_option maxHeartbeats 2000000 in
theorem VX11_enter_243 {h : Nat} {x0 : Nat} {x1 : Int32} {x2 : Int32} {x5 : Int32} {x6 : Int32} {x7 : Int32} {s0 : Int32} {M : Mem} {Q : Option Value → Mem → Prop} (H : DX11_enter_243 h x0 x1 x2 x5 x6 x7 s0 M Q) : T (h + 1) mdX11_enter 243 [(0, .ref x0), (1, .int x1), (2, .int x2), (5, .int x5), (6, .int x6), (7, .int x7)] [.int s0] M Q := by
  unfold DX11_enter_243 at H
  refine xt_istore (lv' := [(4, .int s0), (0, .ref x0), (1, .int x1), (2, .int x2), (5, .int x5), (6, .int x6), (7, .int x7)]) dX11_enter_243 (by decide) rfl ?_
  refine xt_goto (tgt := 343) dX11_enter_245 (by decide) ?_
  exact xt_sub [1, 2, 3, 0, 4, 5, 6] rfl (VX11_enter_343 H)
def DX11_enter_296 (h : Nat) (x0 : Nat) (x1 : Int32) (x2 : Int32) (x4 : Int32) (x6 : Int32) (x7 : Int32) (x9 : Int32) (s0 : Int32) (M : Mem) (Q : Option Value → Mem → Prop) : Prop :=
  E h mdX11_other [.int x9] M (fun r M1 => mE M M1 → ∃ r2 : Int32, r = some (.int r2) ∧ E h mdX11_both [.int s0, .int r2] M1 (fun r M3 => mE M1 M3 → ∃ r4 : Int32, r = some (.int r4) ∧ E h mdX11_both [.int s0, .int x9] M3 (fun r M5 => mE M3 M5 → ∃ r6 : Int32, r = some (.int r6) ∧ E h mdX11_either [.int x6, .int r6] M5 (fun r M7 => mE M5 M7 → ∃ r8 : Int32, r = some (.int r8) ∧ DX11_enter_343 h x0 x1 x2 x4 r4 r8 x7 M7 Q))))
set_option maxRecDepth 20000 in
set_option maxHeartbeats 2000000 in
theorem VX11_enter_296 {h : Nat} {x0 : Nat} {x1 : Int32} {x2 : Int32} {x4 : Int32} {x6 : Int32} {x7 : Int32} {x9 : Int32} {s0 : Int32} {M : Mem} {Q : Option Value → Mem → Prop} (H : DX11_enter_296 h x0 x1 x2 x4 x6 x7 x9 s0 M Q) : T (h + 1) mdX11_enter 296 [(0, .ref x0), (1, .int x1), (2, .int x2), (4, .int x4), (6, .int x6), (7, .int x7), (9, .int x9)] [.int s0] M Q := by
  unfold DX11_enter_296 at H
  refine xt_istore (lv' := [(10, .int s0), (0, .ref x0), (1, .int x1), (2, .int x2), (4, .int x4), (6, .int x6), (7, .int x7), (9, .int x9)]) dX11_enter_296 (by decide) rfl ?_
  refine xt_iload (j := 0) dX11_enter_298 rfl ?_
  refine xt_iload (j := 7) dX11_enter_300 rfl ?_
  refine xt_callS (h2 := h) (as := [.int x9]) (st := [.int s0]) dX11_enter_302 (mlX11_733 rfl) rfl (by first | decide | (simp [Value.category]; done)) (Nat.le_refl _) H (fun r M1 HH hE => ?_)
  obtain ⟨r2, hr, H⟩ := HH hE
  subst hr
  show T _ _ _ _ [.int r2, .int s0] _ _
  refine xt_callS (h2 := h) (as := [.int s0, .int r2]) (st := []) dX11_enter_305 (mlX11_736 rfl) rfl (by first | decide | (simp [Value.category]; done)) (Nat.le_refl _) H (fun r M3 HH hE => ?_)
  obtain ⟨r4, hr, H⟩ := HH hE
  subst hr
  show T _ _ _ _ [.int r4] _ _
  refine xt_istore (lv' := [(5, .int r4), (10, .int s0), (0, .ref x0), (1, .int x1), (2, .int x2), (4, .int x4), (6, .int x6), (7, .int x7), (9, .int x9)]) dX11_enter_308 (by decide) rfl ?_
  refine xt_iload (j := 6) dX11_enter_310 rfl ?_
  refine xt_iload (j := 1) dX11_enter_312 rfl ?_
  refine xt_iload (j := 8) dX11_enter_314 rfl ?_
  refine xt_callS (h2 := h) (as := [.int s0, .int x9]) (st := [.int x6]) dX11_enter_316 (mlX11_736 rfl) rfl (by first | decide | (simp [Value.category]; done)) (Nat.le_refl _) H (fun r M5 HH hE => ?_)
  obtain ⟨r6, hr, H⟩ := HH hE
  subst hr
  show T _ _ _ _ [.int r6, .int x6] _ _
  refine xt_callS (h2 := h) (as := [.int x6, .int r6]) (st := []) dX11_enter_319 (mlX11_739 rfl) rfl (by first | decide | (simp [Value.category]; done)) (Nat.le_refl _) H (fun r M7 HH hE => ?_)
  obtain ⟨r8, hr, H⟩ := HH hE
  subst hr
  show T _ _ _ _ [.int r8] _ _
  refine xt_istore (lv' := [(6, .int r8), (5, .int r4), (10, .int s0), (0, .ref x0), (1, .int x1), (2, .int x2), (4, .int x4), (7, .int x7), (9, .int x9)]) dX11_enter_322 (by decide) rfl ?_
  refine xt_goto (tgt := 343) dX11_enter_324 (by decide) ?_
  exact xt_sub [3, 4, 5, 6, 1, 0, 7] rfl (VX11_enter_343 H)
def DX11_enter_44 (h : Nat) (x0 : Nat) (x1 : Int32) (x2 : Int32) (x3 : Int32) (x4 : Int32) (s0 : Int32) (M : Mem) (Q : Option Value → Mem → Prop) : Prop :=
  (x3 = (-1) → DX11_enter_343 h x0 x1 x2 x4 s0 0 0 M Q) ∧
  (¬ (x3 = (-1)) → ok M x0 13 ∧ ∃ b2 : Nat, mR M x0 77 = some b2 ∧ ok M b2 21 ∧ vp_in (x3 - (700 * (mI M x0 84))) (mL M b2) ∧ ∃ b4 : Nat, mR M x0 78 = some b4 ∧ ok M b4 21 ∧ vp_in (x3 - (700 * (mI M x0 84))) (mL M b4) ∧ ∃ b6 : Nat, mR M x0 79 = some b6 ∧ ok M b6 21 ∧ vp_in (x3 - (700 * (mI M x0 84))) (mL M b6) ∧ ∃ b8 : Nat, mR M x0 80 = some b8 ∧ ok M b8 21 ∧ vp_in (x3 - (700 * (mI M x0 84))) (mL M b8) ∧ ∃ b10 : Nat, mR M x0 62 = some b10 ∧ ok M b10 21 ∧ vp_in x3 (mL M b10) ∧ ((mAI M b10 (x3 : Int32).toNatClampNeg) = 4 → ∃ b12 : Nat, mR M x0 62 = some b12 ∧ ok M b12 21 ∧ vp_in x3 (mL M b12) ∧ (¬ (mAI M b12 (x3 : Int32).toNatClampNeg) = 5 → ∃ b14 : Nat, mR M x0 63 = some b14 ∧ ok M b14 21 ∧ vp_in x3 (mL M b14) ∧ E h mdX11_condValue [.ref x0, .int (mAI M b14 (x3 : Int32).toNatClampNeg)] M (fun r M16 => mE M M16 → ∃ r17 : Int32, r = some (.int r17) ∧ DX11_enter_185 h x0 x1 x2 (mAI M b2 (x3 - (700 * (mI M x0 84)) : Int32).toNatClampNeg) (mAI M b4 (x3 - (700 * (mI M x0 84)) : Int32).toNatClampNeg) (mAI M b6 (x3 - (700 * (mI M x0 84)) : Int32).toNatClampNeg) (mAI M b8 (x3 - (700 * (mI M x0 84)) : Int32).toNatClampNeg) r17 M16 Q)) ∧
  ((mAI M b12 (x3 : Int32).toNatClampNeg) = 5 → ∃ b18 : Nat, mR M x0 63 = some b18 ∧ ok M b18 21 ∧ vp_in x3 (mL M b18) ∧ E h mdX11_ifAt [.ref x0, .int (mAI M b18 (x3 : Int32).toNatClampNeg)] M (fun r M20 => mE M M20 → ∃ r21 : Int32, r = some (.int r21) ∧ DX11_enter_185 h x0 x1 x2 (mAI M b2 (x3 - (700 * (mI M x0 84)) : Int32).toNatClampNeg) (mAI M b4 (x3 - (700 * (mI M x0 84)) : Int32).toNatClampNeg) (mAI M b6 (x3 - (700 * (mI M x0 84)) : Int32).toNatClampNeg) (mAI M b8 (x3 - (700 * (mI M x0 84)) : Int32).toNatClampNeg) r21 M20 Q))) ∧
  ((mAI M b10 (x3 : Int32).toNatClampNeg) = 5 → ∃ b22 : Nat, mR M x0 62 = some b22 ∧ ok M b22 21 ∧ vp_in x3 (mL M b22) ∧ (¬ (mAI M b22 (x3 : Int32).toNatClampNeg) = 5 → ∃ b24 : Nat, mR M x0 63 = some b24 ∧ ok M b24 21 ∧ vp_in x3 (mL M b24) ∧ E h mdX11_condValue [.ref x0, .int (mAI M b24 (x3 : Int32).toNatClampNeg)] M (fun r M26 => mE M M26 → ∃ r27 : Int32, r = some (.int r27) ∧ DX11_enter_185 h x0 x1 x2 (mAI M b2 (x3 - (700 * (mI M x0 84)) : Int32).toNatClampNeg) (mAI M b4 (x3 - (700 * (mI M x0 84)) : Int32).toNatClampNeg) (mAI M b6 (x3 - (700 * (mI M x0 84)) : Int32).toNatClampNeg) (mAI M b8 (x3 - (700 * (mI M x0 84)) : Int32).toNatClampNeg) r27 M26 Q)) ∧
  ((mAI M b22 (x3 : Int32).toNatClampNeg) = 5 → ∃ b28 : Nat, mR M x0 63 = some b28 ∧ ok M b28 21 ∧ vp_in x3 (mL M b28) ∧ E h mdX11_ifAt [.ref x0, .int (mAI M b28 (x3 : Int32).toNatClampNeg)] M (fun r M30 => mE M M30 → ∃ r31 : Int32, r = some (.int r31) ∧ DX11_enter_185 h x0 x1 x2 (mAI M b2 (x3 - (700 * (mI M x0 84)) : Int32).toNatClampNeg) (mAI M b4 (x3 - (700 * (mI M x0 84)) : Int32).toNatClampNeg) (mAI M b6 (x3 - (700 * (mI M x0 84)) : Int32).toNatClampNeg) (mAI M b8 (x3 - (700 * (mI M x0 84)) : Int32).toNatClampNeg) r31 M30 Q))) ∧
  ((mAI M b10 (x3 : Int32).toNatClampNeg) = 6 → ∃ b32 : Nat, mR M x0 67 = some b32 ∧ ok M b32 21 ∧ vp_in x1 (mL M b32) ∧ (¬ (mAI M b32 (x1 : Int32).toNatClampNeg) = (-1) → ∃ b34 : Nat, mR M x0 67 = some b34 ∧ ok M b34 21 ∧ vp_in x1 (mL M b34) ∧ E h mdX11_k [.ref x0, .int (mAI M b34 (x1 : Int32).toNatClampNeg), .int 0] M (fun r M36 => mE M M36 → ∃ r37 : Int32, r = some (.int r37) ∧ DX11_enter_243 h x0 x1 x2 (mAI M b4 (x3 - (700 * (mI M x0 84)) : Int32).toNatClampNeg) (mAI M b6 (x3 - (700 * (mI M x0 84)) : Int32).toNatClampNeg) (mAI M b8 (x3 - (700 * (mI M x0 84)) : Int32).toNatClampNeg) r37 M36 Q)) ∧
  ((mAI M b32 (x1 : Int32).toNatClampNeg) = (-1) → DX11_enter_243 h x0 x1 x2 (mAI M b4 (x3 - (700 * (mI M x0 84)) : Int32).toNatClampNeg) (mAI M b6 (x3 - (700 * (mI M x0 84)) : Int32).toNatClampNeg) (mAI M b8 (x3 - (700 * (mI M x0 84)) : Int32).toNatClampNeg) (mAI M b2 (x3 - (700 * (mI M x0 84)) : Int32).toNatClampNeg) M Q)) ∧
  ((mAI M b10 (x3 : Int32).toNatClampNeg) = 7 → E h mdX11_k [.ref x0, .int x1, .int 0] M (fun r M38 => mE M M38 → ∃ r39 : Int32, r = some (.int r39) ∧ E h mdX11_either [.int (mAI M b2 (x3 - (700 * (mI M x0 84)) : Int32).toNatClampNeg), .int r39] M38 (fun r M40 => mE M38 M40 → ∃ r41 : Int32, r = some (.int r41) ∧ DX11_enter_343 h x0 x1 x2 r41 (mAI M b4 (x3 - (700 * (mI M x0 84)) : Int32).toNatClampNeg) (mAI M b6 (x3 - (700 * (mI M x0 84)) : Int32).toNatClampNeg) (mAI M b8 (x3 - (700 * (mI M x0 84)) : Int32).toNatClampNeg) M40 Q))) ∧
  ((mAI M b10 (x3 : Int32).toNatClampNeg) = 8 → ∃ b42 : Nat, mR M x0 63 = some b42 ∧ ok M b42 21 ∧ vp_in x3 (mL M b42) ∧ E h mdX11_condValue [.ref x0, .int (mAI M b42 (x3 : Int32).toNatClampNeg)] M (fun r M44 => mE M M44 → ∃ r45 : Int32, r = some (.int r45) ∧ ∃ b46 : Nat, mR M44 x0 69 = some b46 ∧ ok M44 b46 21 ∧ vp_in x3 (mL M44 b46) ∧ (((mI M44 x0 85) &&& (mAI M44 b46 (x3 : Int32).toNatClampNeg)) = 0 → DX11_enter_296 h x0 x1 x2 (mAI M b2 (x3 - (700 * (mI M x0 84)) : Int32).toNatClampNeg) (mAI M b6 (x3 - (700 * (mI M x0 84)) : Int32).toNatClampNeg) (mAI M b8 (x3 - (700 * (mI M x0 84)) : Int32).toNatClampNeg) r45 0 M44 Q) ∧
  (¬ (((mI M44 x0 85) &&& (mAI M44 b46 (x3 : Int32).toNatClampNeg)) = 0) → DX11_enter_296 h x0 x1 x2 (mAI M b2 (x3 - (700 * (mI M x0 84)) : Int32).toNatClampNeg) (mAI M b6 (x3 - (700 * (mI M x0 84)) : Int32).toNatClampNeg) (mAI M b8 (x3 - (700 * (mI M x0 84)) : Int32).toNatClampNeg) r45 (mAI M b4 (x3 - (700 * (mI M x0 84)) : Int32).toNatClampNeg) M44 Q))) ∧
  ((mAI M b10 (x3 : Int32).toNatClampNeg) = 9 → DX11_enter_343 h x0 x1 x2 (mAI M b2 (x3 - (700 * (mI M x0 84)) : Int32).toNatClampNeg) (mAI M b4 (x3 - (700 * (mI M x0 84)) : Int32).toNatClampNeg) (mAI M b6 (x3 - (700 * (mI M x0 84)) : Int32).toNatClampNeg) (mAI M b8 (x3 - (700 * (mI M x0 84)) : Int32).toNatClampNeg) M Q) ∧
  ((mAI M b10 (x3 : Int32).toNatClampNeg) = 10 → E h mdX11_k [.ref x0, .int x1, .int 2] M (fun r M48 => mE M M48 → ∃ r49 : Int32, r = some (.int r49) ∧ E h mdX11_either [.int (mAI M b8 (x3 - (700 * (mI M x0 84)) : Int32).toNatClampNeg), .int r49] M48 (fun r M50 => mE M48 M50 → ∃ r51 : Int32, r = some (.int r51) ∧ DX11_enter_343 h x0 x1 x2 (mAI M b2 (x3 - (700 * (mI M x0 84)) : Int32).toNatClampNeg) (mAI M b4 (x3 - (700 * (mI M x0 84)) : Int32).toNatClampNeg) (mAI M b6 (x3 - (700 * (mI M x0 84)) : Int32).toNatClampNeg) r51 M50 Q))) ∧
  (((mAI M b10 (x3 : Int32).toNatClampNeg : Int32).toInt < 4 ∨ 10 < (mAI M b10 (x3 : Int32).toNatClampNeg : Int32).toInt) → DX11_enter_343 h x0 x1 x2 (mAI M b2 (x3 - (700 * (mI M x0 84)) : Int32).toNatClampNeg) (mAI M b4 (x3 - (700 * (mI M x0 84)) : Int32).toNatClampNeg) (mAI M b6 (x3 - (700 * (mI M x0 84)) : Int32).toNatClampNeg) (mAI M b8 (x3 - (700 * (mI M x0 84)) : Int32).toNatClampNeg) M Q))
set_option maxRecDepth 20000 in
set_option maxHeartbeats 2000000 in
theorem VX11_enter_44 {h : Nat} {x0 : Nat} {x1 : Int32} {x2 : Int32} {x3 : Int32} {x4 : Int32} {s0 : Int32} {M : Mem} {Q : Option Value → Mem → Prop} (H : DX11_enter_44 h x0 x1 x2 x3 x4 s0 M Q) : T (h + 1) mdX11_enter 44 [(0, .ref x0), (1, .int x1), (2, .int x2), (3, .int x3), (4, .int x4)] [.int s0] M Q := by
  unfold DX11_enter_44 at H
  refine xt_istore (lv' := [(5, .int s0), (0, .ref x0), (1, .int x1), (2, .int x2), (3, .int x3), (4, .int x4)]) dX11_enter_44 (by decide) rfl ?_
  refine xt_iconst (v := 0) dX11_enter_46 (by decide) ?_
  refine xt_istore (lv' := [(6, .int 0), (5, .int s0), (0, .ref x0), (1, .int x1), (2, .int x2), (3, .int x3), (4, .int x4)]) dX11_enter_47 (by decide) rfl ?_
  refine xt_iconst (v := 0) dX11_enter_49 (by decide) ?_
  refine xt_istore (lv' := [(7, .int 0), (6, .int 0), (5, .int s0), (0, .ref x0), (1, .int x1), (2, .int x2), (3, .int x3), (4, .int x4)]) dX11_enter_50 (by decide) rfl ?_
  refine xt_iload_n (j := 6) dX11_enter_52 rfl rfl ?_
  refine xt_iconst (v := -1) dX11_enter_53 (by decide) ?_
  refine xt_icmp_eq (tgt := 343) dX11_enter_54 (by decide) (fun hc => ?_) (fun hc => ?_)
  · have H := H.1 hc
    exact xt_sub [3, 4, 5, 7, 2, 1, 0] rfl (VX11_enter_343 H)
  · have H := H.2 hc
    refine xt_iload_n (j := 6) dX11_enter_57 rfl rfl ?_
    refine xt_sipush (v := 700) dX11_enter_58 (by decide) ?_
    refine xt_aload_n (j := 3) dX11_enter_61 rfl rfl ?_
    obtain ⟨ho1, H⟩ := H
    refine xt_getI dX11_enter_62 (flX11_742 rfl) ft_13_84 ho1.1 ho1.2 ?_
    refine xt_imul dX11_enter_65 ?_
    refine xt_isub dX11_enter_66 ?_
    refine xt_istore (lv' := [(8, .int (x3 - (700 * (mI M x0 84)))), (7, .int 0), (6, .int 0), (5, .int s0), (0, .ref x0), (1, .int x1), (2, .int x2), (3, .int x3), (4, .int x4)]) dX11_enter_67 (by decide) rfl ?_
    refine xt_aload_n (j := 4) dX11_enter_69 rfl rfl ?_
    obtain ⟨b2, hb, H⟩ := H
    refine xt_getR dX11_enter_70 (flX11_207 rfl) ft_13_77 ho1.1 ho1.2 hb ?_
    refine xt_iload (j := 0) dX11_enter_73 rfl ?_
    obtain ⟨ho3, H⟩ := H
    obtain ⟨hi, H⟩ := H
    refine xt_iald dX11_enter_75 ho3.1 ho3.2 hi ?_
    refine xt_istore (lv' := [(4, .int (mAI M b2 (x3 - (700 * (mI M x0 84)) : Int32).toNatClampNeg)), (8, .int (x3 - (700 * (mI M x0 84)))), (7, .int 0), (6, .int 0), (5, .int s0), (0, .ref x0), (1, .int x1), (2, .int x2), (3, .int x3)]) dX11_enter_76 (by decide) rfl ?_
    refine xt_aload_n (j := 5) dX11_enter_78 rfl rfl ?_
    obtain ⟨b4, hb, H⟩ := H
    refine xt_getR dX11_enter_79 (flX11_210 rfl) ft_13_78 ho1.1 ho1.2 hb ?_
    refine xt_iload (j := 1) dX11_enter_82 rfl ?_
    obtain ⟨ho5, H⟩ := H
    obtain ⟨hi, H⟩ := H
    refine xt_iald dX11_enter_84 ho5.1 ho5.2 hi ?_
    refine xt_istore (lv' := [(5, .int (mAI M b4 (x3 - (700 * (mI M x0 84)) : Int32).toNatClampNeg)), (4, .int (mAI M b2 (x3 - (700 * (mI M x0 84)) : Int32).toNatClampNeg)), (8, .int (x3 - (700 * (mI M x0 84)))), (7, .int 0), (6, .int 0), (0, .ref x0), (1, .int x1), (2, .int x2), (3, .int x3)]) dX11_enter_85 (by decide) rfl ?_
    refine xt_aload_n (j := 5) dX11_enter_87 rfl rfl ?_
    obtain ⟨b6, hb, H⟩ := H
    refine xt_getR dX11_enter_88 (flX11_213 rfl) ft_13_79 ho1.1 ho1.2 hb ?_
    refine xt_iload (j := 2) dX11_enter_91 rfl ?_
    obtain ⟨ho7, H⟩ := H
    obtain ⟨hi, H⟩ := H
    refine xt_iald dX11_enter_93 ho7.1 ho7.2 hi ?_
    refine xt_istore (lv' := [(6, .int (mAI M b6 (x3 - (700 * (mI M x0 84)) : Int32).toNatClampNeg)), (5, .int (mAI M b4 (x3 - (700 * (mI M x0 84)) : Int32).toNatClampNeg)), (4, .int (mAI M b2 (x3 - (700 * (mI M x0 84)) : Int32).toNatClampNeg)), (8, .int (x3 - (700 * (mI M x0 84)))), (7, .int 0), (0, .ref x0), (1, .int x1), (2, .int x2), (3, .int x3)]) dX11_enter_94 (by decide) rfl ?_
    refine xt_aload_n (j := 5) dX11_enter_96 rfl rfl ?_
    obtain ⟨b8, hb, H⟩ := H
    refine xt_getR dX11_enter_97 (flX11_216 rfl) ft_13_80 ho1.1 ho1.2 hb ?_
    refine xt_iload (j := 3) dX11_enter_100 rfl ?_
    obtain ⟨ho9, H⟩ := H
    obtain ⟨hi, H⟩ := H
    refine xt_iald dX11_enter_102 ho9.1 ho9.2 hi ?_
    refine xt_istore (lv' := [(7, .int (mAI M b8 (x3 - (700 * (mI M x0 84)) : Int32).toNatClampNeg)), (6, .int (mAI M b6 (x3 - (700 * (mI M x0 84)) : Int32).toNatClampNeg)), (5, .int (mAI M b4 (x3 - (700 * (mI M x0 84)) : Int32).toNatClampNeg)), (4, .int (mAI M b2 (x3 - (700 * (mI M x0 84)) : Int32).toNatClampNeg)), (8, .int (x3 - (700 * (mI M x0 84)))), (0, .ref x0), (1, .int x1), (2, .int x2), (3, .int x3)]) dX11_enter_103 (by decide) rfl ?_
    refine xt_aload_n (j := 5) dX11_enter_105 rfl rfl ?_
    obtain ⟨b10, hb, H⟩ := H
    refine xt_getR dX11_enter_106 (flX11_162 rfl) ft_13_62 ho1.1 ho1.2 hb ?_
    refine xt_iload_n (j := 8) dX11_enter_109 rfl rfl ?_
    obtain ⟨ho11, H⟩ := H
    obtain ⟨hi, H⟩ := H
    refine xt_iald dX11_enter_110 ho11.1 ho11.2 hi ?_
    by_cases hsw : (mAI M b10 (x3 : Int32).toNatClampNeg : Int32).toInt < 4 ∨ 10 < (mAI M b10 (x3 : Int32).toNatClampNeg : Int32).toInt
    · refine xt_tableOut (tgt := 343) dX11_enter_111 hsw (by decide) ?_
      have H := H.2.2.2.2.2.2.2 hsw
      exact xt_sub [5, 6, 7, 3, 2, 1, 0] rfl (VX11_enter_343 H)
    · have hsw2 : (mAI M b10 (x3 : Int32).toNatClampNeg : Int32).toInt = 4 ∨ (mAI M b10 (x3 : Int32).toNatClampNeg : Int32).toInt = 5 ∨ (mAI M b10 (x3 : Int32).toNatClampNeg : Int32).toInt = 6 ∨ (mAI M b10 (x3 : Int32).toNatClampNeg : Int32).toInt = 7 ∨ (mAI M b10 (x3 : Int32).toNatClampNeg : Int32).toInt = 8 ∨ (mAI M b10 (x3 : Int32).toNatClampNeg : Int32).toInt = 9 ∨ (mAI M b10 (x3 : Int32).toNatClampNeg : Int32).toInt = 10 := by omega
      rcases hsw2 with hv | hv | hv | hv | hv | hv | hv
      · have hx : (mAI M b10 (x3 : Int32).toNatClampNeg) = 4 := i32_ofInt hv
        have H := H.1 hx
        refine xt_tableIn (tgt := 152) dX11_enter_111 (by omega) (by omega) (by rw [hv]; rfl) (by decide) ?_
        refine xt_aload_n (j := 5) dX11_enter_152 rfl rfl ?_
        obtain ⟨b12, hb, H⟩ := H
        refine xt_getR dX11_enter_153 (flX11_162 rfl) ft_13_62 ho1.1 ho1.2 hb ?_
        refine xt_iload_n (j := 8) dX11_enter_156 rfl rfl ?_
        obtain ⟨ho13, H⟩ := H
        obtain ⟨hi, H⟩ := H
        refine xt_iald dX11_enter_157 ho13.1 ho13.2 hi ?_
        refine xt_iconst (v := 5) dX11_enter_158 (by decide) ?_
        refine xt_icmp_ne (tgt := 175) dX11_enter_159 (by decide) (fun hc => ?_) (fun hc => ?_)
        · have H := H.1 hc
          refine xt_aload_n (j := 5) dX11_enter_175 rfl rfl ?_
          refine xt_aload_n (j := 5) dX11_enter_176 rfl rfl ?_
          obtain ⟨b14, hb, H⟩ := H
          refine xt_getR dX11_enter_177 (flX11_165 rfl) ft_13_63 ho1.1 ho1.2 hb ?_
          refine xt_iload_n (j := 8) dX11_enter_180 rfl rfl ?_
          obtain ⟨ho15, H⟩ := H
          obtain ⟨hi, H⟩ := H
          refine xt_iald dX11_enter_181 ho15.1 ho15.2 hi ?_
          refine xt_callV (h2 := h) (as := [.int (mAI M b14 (x3 : Int32).toNatClampNeg)]) (st := []) dX11_enter_182 (mlX11_758 rfl) rfl ho1.1 ⟨by rw [ho1.2]; rfl, by rw [ho1.2]; decide⟩ (by first | decide | (simp [Value.category]; done)) (Nat.le_refl _) H (fun r M16 HH hE => ?_)
          obtain ⟨r17, hr, H⟩ := HH hE
          subst hr
          have ho1 := ok_E ho1 hE
          show T _ _ _ _ [.int r17] _ _
          exact xt_sub [5, 6, 7, 3, 2, 1, 0] rfl (VX11_enter_185 H)
        · have H := H.2 hc
          refine xt_aload_n (j := 5) dX11_enter_162 rfl rfl ?_
          refine xt_aload_n (j := 5) dX11_enter_163 rfl rfl ?_
          obtain ⟨b18, hb, H⟩ := H
          refine xt_getR dX11_enter_164 (flX11_165 rfl) ft_13_63 ho1.1 ho1.2 hb ?_
          refine xt_iload_n (j := 8) dX11_enter_167 rfl rfl ?_
          obtain ⟨ho19, H⟩ := H
          obtain ⟨hi, H⟩ := H
          refine xt_iald dX11_enter_168 ho19.1 ho19.2 hi ?_
          refine xt_callV (h2 := h) (as := [.int (mAI M b18 (x3 : Int32).toNatClampNeg)]) (st := []) dX11_enter_169 (mlX11_755 rfl) rfl ho1.1 ⟨by rw [ho1.2]; rfl, by rw [ho1.2]; decide⟩ (by first | decide | (simp [Value.category]; done)) (Nat.le_refl _) H (fun r M20 HH hE => ?_)
          obtain ⟨r21, hr, H⟩ := HH hE
          subst hr
          have ho1 := ok_E ho1 hE
          show T _ _ _ _ [.int r21] _ _
          refine xt_goto (tgt := 185) dX11_enter_172 (by decide) ?_
          exact xt_sub [5, 6, 7, 3, 2, 1, 0] rfl (VX11_enter_185 H)
      · have hx : (mAI M b10 (x3 : Int32).toNatClampNeg) = 5 := i32_ofInt hv
        have H := H.2.1 hx
        refine xt_tableIn (tgt := 152) dX11_enter_111 (by omega) (by omega) (by rw [hv]; rfl) (by decide) ?_
        refine xt_aload_n (j := 5) dX11_enter_152 rfl rfl ?_
        obtain ⟨b22, hb, H⟩ := H
        refine xt_getR dX11_enter_153 (flX11_162 rfl) ft_13_62 ho1.1 ho1.2 hb ?_
        refine xt_iload_n (j := 8) dX11_enter_156 rfl rfl ?_
        obtain ⟨ho23, H⟩ := H
        obtain ⟨hi, H⟩ := H
        refine xt_iald dX11_enter_157 ho23.1 ho23.2 hi ?_
        refine xt_iconst (v := 5) dX11_enter_158 (by decide) ?_
        refine xt_icmp_ne (tgt := 175) dX11_enter_159 (by decide) (fun hc => ?_) (fun hc => ?_)
        · have H := H.1 hc
          refine xt_aload_n (j := 5) dX11_enter_175 rfl rfl ?_
          refine xt_aload_n (j := 5) dX11_enter_176 rfl rfl ?_
          obtain ⟨b24, hb, H⟩ := H
          refine xt_getR dX11_enter_177 (flX11_165 rfl) ft_13_63 ho1.1 ho1.2 hb ?_
          refine xt_iload_n (j := 8) dX11_enter_180 rfl rfl ?_
          obtain ⟨ho25, H⟩ := H
          obtain ⟨hi, H⟩ := H
          refine xt_iald dX11_enter_181 ho25.1 ho25.2 hi ?_
          refine xt_callV (h2 := h) (as := [.int (mAI M b24 (x3 : Int32).toNatClampNeg)]) (st := []) dX11_enter_182 (mlX11_758 rfl) rfl ho1.1 ⟨by rw [ho1.2]; rfl, by rw [ho1.2]; decide⟩ (by first | decide | (simp [Value.category]; done)) (Nat.le_refl _) H (fun r M26 HH hE => ?_)
          obtain ⟨r27, hr, H⟩ := HH hE
          subst hr
          have ho1 := ok_E ho1 hE
          show T _ _ _ _ [.int r27] _ _
          exact xt_sub [5, 6, 7, 3, 2, 1, 0] rfl (VX11_enter_185 H)
        · have H := H.2 hc
          refine xt_aload_n (j := 5) dX11_enter_162 rfl rfl ?_
          refine xt_aload_n (j := 5) dX11_enter_163 rfl rfl ?_
          obtain ⟨b28, hb, H⟩ := H
          refine xt_getR dX11_enter_164 (flX11_165 rfl) ft_13_63 ho1.1 ho1.2 hb ?_
          refine xt_iload_n (j := 8) dX11_enter_167 rfl rfl ?_
          obtain ⟨ho29, H⟩ := H
          obtain ⟨hi, H⟩ := H
          refine xt_iald dX11_enter_168 ho29.1 ho29.2 hi ?_
          refine xt_callV (h2 := h) (as := [.int (mAI M b28 (x3 : Int32).toNatClampNeg)]) (st := []) dX11_enter_169 (mlX11_755 rfl) rfl ho1.1 ⟨by rw [ho1.2]; rfl, by rw [ho1.2]; decide⟩ (by first | decide | (simp [Value.category]; done)) (Nat.le_refl _) H (fun r M30 HH hE => ?_)
          obtain ⟨r31, hr, H⟩ := HH hE
          subst hr
          have ho1 := ok_E ho1 hE
          show T _ _ _ _ [.int r31] _ _
          refine xt_goto (tgt := 185) dX11_enter_172 (by decide) ?_
          exact xt_sub [5, 6, 7, 3, 2, 1, 0] rfl (VX11_enter_185 H)
      · have hx : (mAI M b10 (x3 : Int32).toNatClampNeg) = 6 := i32_ofInt hv
        have H := H.2.2.1 hx
        refine xt_tableIn (tgt := 217) dX11_enter_111 (by omega) (by omega) (by rw [hv]; rfl) (by decide) ?_
        refine xt_aload_n (j := 5) dX11_enter_217 rfl rfl ?_
        obtain ⟨b32, hb, H⟩ := H
        refine xt_getR dX11_enter_218 (flX11_177 rfl) ft_13_67 ho1.1 ho1.2 hb ?_
        refine xt_iload_n (j := 6) dX11_enter_221 rfl rfl ?_
        obtain ⟨ho33, H⟩ := H
        obtain ⟨hi, H⟩ := H
        refine xt_iald dX11_enter_222 ho33.1 ho33.2 hi ?_
        refine xt_iconst (v := -1) dX11_enter_223 (by decide) ?_
        refine xt_icmp_ne (tgt := 232) dX11_enter_224 (by decide) (fun hc => ?_) (fun hc => ?_)
        · have H := H.1 hc
          refine xt_aload_n (j := 5) dX11_enter_232 rfl rfl ?_
          refine xt_aload_n (j := 5) dX11_enter_233 rfl rfl ?_
          obtain ⟨b34, hb, H⟩ := H
          refine xt_getR dX11_enter_234 (flX11_177 rfl) ft_13_67 ho1.1 ho1.2 hb ?_
          refine xt_iload_n (j := 6) dX11_enter_237 rfl rfl ?_
          obtain ⟨ho35, H⟩ := H
          obtain ⟨hi, H⟩ := H
          refine xt_iald dX11_enter_238 ho35.1 ho35.2 hi ?_
          refine xt_iconst (v := 0) dX11_enter_239 (by decide) ?_
          refine xt_callV (h2 := h) (as := [.int (mAI M b34 (x1 : Int32).toNatClampNeg), .int 0]) (st := []) dX11_enter_240 (mlX11_761 rfl) rfl ho1.1 ⟨by rw [ho1.2]; rfl, by rw [ho1.2]; decide⟩ (by first | decide | (simp [Value.category]; done)) (Nat.le_refl _) H (fun r M36 HH hE => ?_)
          obtain ⟨r37, hr, H⟩ := HH hE
          subst hr
          have ho1 := ok_E ho1 hE
          show T _ _ _ _ [.int r37] _ _
          exact xt_sub [5, 6, 7, 2, 1, 0] rfl (VX11_enter_243 H)
        · have H := H.2 hc
          refine xt_iload (j := 3) dX11_enter_227 rfl ?_
          refine xt_goto (tgt := 243) dX11_enter_229 (by decide) ?_
          exact xt_sub [5, 6, 7, 2, 1, 0] rfl (VX11_enter_243 H)
      · have hx : (mAI M b10 (x3 : Int32).toNatClampNeg) = 7 := i32_ofInt hv
        have H := H.2.2.2.1 hx
        refine xt_tableIn (tgt := 248) dX11_enter_111 (by omega) (by omega) (by rw [hv]; rfl) (by decide) ?_
        refine xt_iload (j := 3) dX11_enter_248 rfl ?_
        refine xt_aload_n (j := 5) dX11_enter_250 rfl rfl ?_
        refine xt_iload_n (j := 6) dX11_enter_251 rfl rfl ?_
        refine xt_iconst (v := 0) dX11_enter_252 (by decide) ?_
        refine xt_callV (h2 := h) (as := [.int x1, .int 0]) (st := [.int (mAI M b2 (x3 - (700 * (mI M x0 84)) : Int32).toNatClampNeg)]) dX11_enter_253 (mlX11_761 rfl) rfl ho1.1 ⟨by rw [ho1.2]; rfl, by rw [ho1.2]; decide⟩ (by first | decide | (simp [Value.category]; done)) (Nat.le_refl _) H (fun r M38 HH hE => ?_)
        obtain ⟨r39, hr, H⟩ := HH hE
        subst hr
        have ho1 := ok_E ho1 hE
        show T _ _ _ _ [.int r39, .int (mAI M b2 (x3 - (700 * (mI M x0 84)) : Int32).toNatClampNeg)] _ _
        refine xt_callS (h2 := h) (as := [.int (mAI M b2 (x3 - (700 * (mI M x0 84)) : Int32).toNatClampNeg), .int r39]) (st := []) dX11_enter_256 (mlX11_739 rfl) rfl (by first | decide | (simp [Value.category]; done)) (Nat.le_refl _) H (fun r M40 HH hE => ?_)
        obtain ⟨r41, hr, H⟩ := HH hE
        subst hr
        have ho1 := ok_E ho1 hE
        show T _ _ _ _ [.int r41] _ _
        refine xt_istore (lv' := [(4, .int r41), (7, .int (mAI M b8 (x3 - (700 * (mI M x0 84)) : Int32).toNatClampNeg)), (6, .int (mAI M b6 (x3 - (700 * (mI M x0 84)) : Int32).toNatClampNeg)), (5, .int (mAI M b4 (x3 - (700 * (mI M x0 84)) : Int32).toNatClampNeg)), (8, .int (x3 - (700 * (mI M x0 84)))), (0, .ref x0), (1, .int x1), (2, .int x2), (3, .int x3)]) dX11_enter_259 (by decide) rfl ?_
        refine xt_goto (tgt := 343) dX11_enter_261 (by decide) ?_
        exact xt_sub [5, 6, 7, 0, 3, 2, 1] rfl (VX11_enter_343 H)
      · have hx : (mAI M b10 (x3 : Int32).toNatClampNeg) = 8 := i32_ofInt hv
        have H := H.2.2.2.2.1 hx
        refine xt_tableIn (tgt := 264) dX11_enter_111 (by omega) (by omega) (by rw [hv]; rfl) (by decide) ?_
        refine xt_aload_n (j := 5) dX11_enter_264 rfl rfl ?_
        refine xt_aload_n (j := 5) dX11_enter_265 rfl rfl ?_
        obtain ⟨b42, hb, H⟩ := H
        refine xt_getR dX11_enter_266 (flX11_165 rfl) ft_13_63 ho1.1 ho1.2 hb ?_
        refine xt_iload_n (j := 8) dX11_enter_269 rfl rfl ?_
        obtain ⟨ho43, H⟩ := H
        obtain ⟨hi, H⟩ := H
        refine xt_iald dX11_enter_270 ho43.1 ho43.2 hi ?_
        refine xt_callV (h2 := h) (as := [.int (mAI M b42 (x3 : Int32).toNatClampNeg)]) (st := []) dX11_enter_271 (mlX11_758 rfl) rfl ho1.1 ⟨by rw [ho1.2]; rfl, by rw [ho1.2]; decide⟩ (by first | decide | (simp [Value.category]; done)) (Nat.le_refl _) H (fun r M44 HH hE => ?_)
        obtain ⟨r45, hr, H⟩ := HH hE
        subst hr
        have ho1 := ok_E ho1 hE
        show T _ _ _ _ [.int r45] _ _
        refine xt_istore (lv' := [(9, .int r45), (7, .int (mAI M b8 (x3 - (700 * (mI M x0 84)) : Int32).toNatClampNeg)), (6, .int (mAI M b6 (x3 - (700 * (mI M x0 84)) : Int32).toNatClampNeg)), (5, .int (mAI M b4 (x3 - (700 * (mI M x0 84)) : Int32).toNatClampNeg)), (4, .int (mAI M b2 (x3 - (700 * (mI M x0 84)) : Int32).toNatClampNeg)), (8, .int (x3 - (700 * (mI M x0 84)))), (0, .ref x0), (1, .int x1), (2, .int x2), (3, .int x3)]) dX11_enter_274 (by decide) rfl ?_
        refine xt_aload_n (j := 6) dX11_enter_276 rfl rfl ?_
        refine xt_getI dX11_enter_277 (flX11_764 rfl) ft_13_85 ho1.1 ho1.2 ?_
        refine xt_aload_n (j := 6) dX11_enter_280 rfl rfl ?_
        obtain ⟨b46, hb, H⟩ := H
        refine xt_getR dX11_enter_281 (flX11_183 rfl) ft_13_69 ho1.1 ho1.2 hb ?_
        refine xt_iload_n (j := 9) dX11_enter_284 rfl rfl ?_
        obtain ⟨ho47, H⟩ := H
        obtain ⟨hi, H⟩ := H
        refine xt_iald dX11_enter_285 ho47.1 ho47.2 hi ?_
        refine xt_iand dX11_enter_286 ?_
        refine xt_if_eq (tgt := 295) dX11_enter_287 (by decide) (fun hc => ?_) (fun hc => ?_)
        · have H := H.1 hc
          refine xt_iconst (v := 0) dX11_enter_295 (by decide) ?_
          exact xt_sub [6, 7, 8, 4, 2, 1, 0] rfl (VX11_enter_296 H)
        · have H := H.2 hc
          refine xt_iload (j := 3) dX11_enter_290 rfl ?_
          refine xt_goto (tgt := 296) dX11_enter_292 (by decide) ?_
          exact xt_sub [6, 7, 8, 4, 2, 1, 0] rfl (VX11_enter_296 H)
      · have hx : (mAI M b10 (x3 : Int32).toNatClampNeg) = 9 := i32_ofInt hv
        have H := H.2.2.2.2.2.1 hx
        refine xt_tableIn (tgt := 343) dX11_enter_111 (by omega) (by omega) (by rw [hv]; rfl) (by decide) ?_
        exact xt_sub [5, 6, 7, 3, 2, 1, 0] rfl (VX11_enter_343 H)
      · have hx : (mAI M b10 (x3 : Int32).toNatClampNeg) = 10 := i32_ofInt hv
        have H := H.2.2.2.2.2.2.1 hx
        refine xt_tableIn (tgt := 327) dX11_enter_111 (by omega) (by omega) (by rw [hv]; rfl) (by decide) ?_
        refine xt_iload (j := 0) dX11_enter_327 rfl ?_
        refine xt_aload_n (j := 5) dX11_enter_329 rfl rfl ?_
        refine xt_iload_n (j := 6) dX11_enter_330 rfl rfl ?_
        refine xt_iconst (v := 2) dX11_enter_331 (by decide) ?_
        refine xt_callV (h2 := h) (as := [.int x1, .int 2]) (st := [.int (mAI M b8 (x3 - (700 * (mI M x0 84)) : Int32).toNatClampNeg)]) dX11_enter_332 (mlX11_761 rfl) rfl ho1.1 ⟨by rw [ho1.2]; rfl, by rw [ho1.2]; decide⟩ (by first | decide | (simp [Value.category]; done)) (Nat.le_refl _) H (fun r M48 HH hE => ?_)
        obtain ⟨r49, hr, H⟩ := HH hE
        subst hr
        have ho1 := ok_E ho1 hE
        show T _ _ _ _ [.int r49, .int (mAI M b8 (x3 - (700 * (mI M x0 84)) : Int32).toNatClampNeg)] _ _
        refine xt_callS (h2 := h) (as := [.int (mAI M b8 (x3 - (700 * (mI M x0 84)) : Int32).toNatClampNeg), .int r49]) (st := []) dX11_enter_335 (mlX11_739 rfl) rfl (by first | decide | (simp [Value.category]; done)) (Nat.le_refl _) H (fun r M50 HH hE => ?_)
        obtain ⟨r51, hr, H⟩ := HH hE
        subst hr
        have ho1 := ok_E ho1 hE
        show T _ _ _ _ [.int r51] _ _
        refine xt_istore (lv' := [(7, .int r51), (6, .int (mAI M b6 (x3 - (700 * (mI M x0 84)) : Int32).toNatClampNeg)), (5, .int (mAI M b4 (x3 - (700 * (mI M x0 84)) : Int32).toNatClampNeg)), (4, .int (mAI M b2 (x3 - (700 * (mI M x0 84)) : Int32).toNatClampNeg)), (8, .int (x3 - (700 * (mI M x0 84)))), (0, .ref x0), (1, .int x1), (2, .int x2), (3, .int x3)]) dX11_enter_338 (by decide) rfl ?_
        refine xt_goto (tgt := 343) dX11_enter_340 (by decide) ?_
        exact xt_sub [5, 6, 7, 3, 2, 1, 0] rfl (VX11_enter_343 H)
def DX11_enter_30 (h : Nat) (x0 : Nat) (x1 : Int32) (x2 : Int32) (x3 : Int32) (s0 : Int32) (M : Mem) (Q : Option Value → Mem → Prop) : Prop :=
  ok M x0 13 ∧ ((mI M x0 89) = 0 → DX11_enter_44 h x0 x1 x2 x3 s0 1 M Q) ∧
  (¬ ((mI M x0 89) = 0) → DX11_enter_44 h x0 x1 x2 x3 s0 0 M Q)
set_option maxRecDepth 20000 in
set_option maxHeartbeats 2000000 in
theorem VX11_enter_30 {h : Nat} {x0 : Nat} {x1 : Int32} {x2 : Int32} {x3 : Int32} {s0 : Int32} {M : Mem} {Q : Option Value → Mem → Prop} (H : DX11_enter_30 h x0 x1 x2 x3 s0 M Q) : T (h + 1) mdX11_enter 30 [(0, .ref x0), (1, .int x1), (2, .int x2), (3, .int x3)] [.int s0] M Q := by
  unfold DX11_enter_30 at H
  refine xt_istore (lv' := [(4, .int s0), (0, .ref x0), (1, .int x1), (2, .int x2), (3, .int x3)]) dX11_enter_30 (by decide) rfl ?_
  refine xt_aload_n (j := 1) dX11_enter_32 rfl rfl ?_
  obtain ⟨ho1, H⟩ := H
  refine xt_getI dX11_enter_33 (flX11_752 rfl) ft_13_89 ho1.1 ho1.2 ?_
  refine xt_if_eq (tgt := 43) dX11_enter_36 (by decide) (fun hc => ?_) (fun hc => ?_)
  · have H := H.1 hc
    refine xt_iconst (v := 1) dX11_enter_43 (by decide) ?_
    exact xt_sub [1, 2, 3, 4, 0] rfl (VX11_enter_44 H)
  · have H := H.2 hc
    refine xt_iconst (v := 0) dX11_enter_39 (by decide) ?_
    refine xt_goto (tgt := 44) dX11_enter_40 (by decide) ?_
    exact xt_sub [1, 2, 3, 4, 0] rfl (VX11_enter_44 H)
def DX11_enter_0 (h : Nat) (x0 : Nat) (x1 : Int32) (M : Mem) (Q : Option Value → Mem → Prop) : Prop :=
  ok M x0 13 ∧ ∃ b2 : Nat, mR M x0 68 = some b2 ∧ ok M b2 21 ∧ vp_in x1 (mL M b2) ∧ ((mI M x0 89) = 0 → DX11_enter_30 h x0 x1 (x1 - (700 * (mI M x0 84))) (mAI M b2 (x1 : Int32).toNatClampNeg) 0 M Q) ∧
  (¬ ((mI M x0 89) = 0) → DX11_enter_30 h x0 x1 (x1 - (700 * (mI M x0 84))) (mAI M b2 (x1 : Int32).toNatClampNeg) 1 M Q)
set_option maxRecDepth 20000 in
set_option maxHeartbeats 2000000 in
theorem VX11_enter_0 {h : Nat} {x0 : Nat} {x1 : Int32} {M : Mem} {Q : Option Value → Mem → Prop} (H : DX11_enter_0 h x0 x1 M Q) : T (h + 1) mdX11_enter 0 [(0, .ref x0), (1, .int x1)] [] M Q := by
  unfold DX11_enter_0 at H
  refine xt_iload_n (j := 1) dX11_enter_0 rfl rfl ?_
  refine xt_sipush (v := 700) dX11_enter_1 (by decide) ?_
  refine xt_aload_n (j := 0) dX11_enter_4 rfl rfl ?_
  obtain ⟨ho1, H⟩ := H
  refine xt_getI dX11_enter_5 (flX11_742 rfl) ft_13_84 ho1.1 ho1.2 ?_
  refine xt_imul dX11_enter_8 ?_
  refine xt_isub dX11_enter_9 ?_
  refine xt_istore_n (lv' := [(2, .int (x1 - (700 * (mI M x0 84)))), (0, .ref x0), (1, .int x1)]) dX11_enter_10 rfl (by decide) rfl ?_
  refine xt_aload_n (j := 1) dX11_enter_11 rfl rfl ?_
  obtain ⟨b2, hb, H⟩ := H
  refine xt_getR dX11_enter_12 (flX11_180 rfl) ft_13_68 ho1.1 ho1.2 hb ?_
  refine xt_iload_n (j := 2) dX11_enter_15 rfl rfl ?_
  obtain ⟨ho3, H⟩ := H
  obtain ⟨hi, H⟩ := H
  refine xt_iald dX11_enter_16 ho3.1 ho3.2 hi ?_
  refine xt_istore_n (lv' := [(3, .int (mAI M b2 (x1 : Int32).toNatClampNeg)), (2, .int (x1 - (700 * (mI M x0 84)))), (0, .ref x0), (1, .int x1)]) dX11_enter_17 rfl (by decide) rfl ?_
  refine xt_aload_n (j := 2) dX11_enter_18 rfl rfl ?_
  refine xt_getI dX11_enter_19 (flX11_752 rfl) ft_13_89 ho1.1 ho1.2 ?_
  refine xt_if_eq (tgt := 29) dX11_enter_22 (by decide) (fun hc => ?_) (fun hc => ?_)
  · have H := H.1 hc
    refine xt_iconst (v := 0) dX11_enter_29 (by decide) ?_
    exact xt_sub [2, 3, 1, 0] rfl (VX11_enter_30 H)
  · have H := H.2 hc
    refine xt_iconst (v := 1) dX11_enter_25 (by decide) ?_
    refine xt_goto (tgt := 30) dX11_enter_26 (by decide) ?_
    exact xt_sub [2, 3, 1, 0] rfl (VX11_enter_30 H)
theorem KX11_enter {h : Nat} {x0 : Nat} {x1 : Int32} {M : Mem} {Q : Option Value → Mem → Prop} (H : DX11_enter_0 h x0 x1 M Q) : E (h + 1) mdX11_enter [.ref x0, .int x1] M Q := E.of (by decide) (Nat.le_of_ble_eq_true rfl) (fun _ _ _ => trivial) (VX11_enter_0 H)
def DX11_orOf_10 (h : Nat) (x0 : Nat) (x2 : Int32) (x3 : Int32) (x4 : Int32) (M : Mem) (Q : Option Value → Mem → Prop) : Prop :=
  (x4 = (-1) → Q (some (.int x3)) M) ∧
  (¬ (x4 = (-1)) → ok M x0 13 ∧ E h mdX11_k [.ref x0, .int x4, .int x2] M (fun r M2 => mE M M2 → ∃ r3 : Int32, r = some (.int r3) ∧ E h mdX11_either [.int x3, .int r3] M2 (fun r M4 => mE M2 M4 → ∃ r5 : Int32, r = some (.int r5) ∧ ∃ b6 : Nat, mR M4 x0 66 = some b6 ∧ ok M4 b6 21 ∧ vp_in x4 (mL M4 b6) ∧ T (h + 1) mdX11_orOf 10 [(0, .ref x0), (2, .int x2), (3, .int r5), (4, .int (mAI M4 b6 (x4 : Int32).toNatClampNeg))] [] M4 Q)))
set_option maxRecDepth 20000 in
set_option maxHeartbeats 2000000 in
theorem VX11_orOf_10 {h : Nat} {x0 : Nat} {x2 : Int32} {x3 : Int32} {x4 : Int32} {M : Mem} {Q : Option Value → Mem → Prop} (H : DX11_orOf_10 h x0 x2 x3 x4 M Q) : T (h + 1) mdX11_orOf 10 [(0, .ref x0), (2, .int x2), (3, .int x3), (4, .int x4)] [] M Q := by
  unfold DX11_orOf_10 at H
  refine xt_iload (j := 3) dX11_orOf_10 rfl ?_
  refine xt_iconst (v := -1) dX11_orOf_12 (by decide) ?_
  refine xt_icmp_eq (tgt := 40) dX11_orOf_13 (by decide) (fun hc => ?_) (fun hc => ?_)
  · have H := H.1 hc
    refine xt_iload_n (j := 2) dX11_orOf_40 rfl rfl ?_
    exact xt_ireturn dX11_orOf_41 rfl H
  · have H := H.2 hc
    refine xt_iload_n (j := 2) dX11_orOf_16 rfl rfl ?_
    refine xt_aload_n (j := 0) dX11_orOf_17 rfl rfl ?_
    refine xt_iload (j := 3) dX11_orOf_18 rfl ?_
    refine xt_iload_n (j := 1) dX11_orOf_20 rfl rfl ?_
    obtain ⟨ho1, H⟩ := H
    refine xt_callV (h2 := h) (as := [.int x4, .int x2]) (st := [.int x3]) dX11_orOf_21 (mlX11_761 rfl) rfl ho1.1 ⟨by rw [ho1.2]; rfl, by rw [ho1.2]; decide⟩ (by first | decide | (simp [Value.category]; done)) (Nat.le_refl _) H (fun r M2 HH hE => ?_)
    obtain ⟨r3, hr, H⟩ := HH hE
    subst hr
    have ho1 := ok_E ho1 hE
    show T _ _ _ _ [.int r3, .int x3] _ _
    refine xt_callS (h2 := h) (as := [.int x3, .int r3]) (st := []) dX11_orOf_24 (mlX11_739 rfl) rfl (by first | decide | (simp [Value.category]; done)) (Nat.le_refl _) H (fun r M4 HH hE => ?_)
    obtain ⟨r5, hr, H⟩ := HH hE
    subst hr
    have ho1 := ok_E ho1 hE
    show T _ _ _ _ [.int r5] _ _
    refine xt_istore_n (lv' := [(3, .int r5), (0, .ref x0), (2, .int x2), (4, .int x4)]) dX11_orOf_27 rfl (by decide) rfl ?_
    refine xt_aload_n (j := 1) dX11_orOf_28 rfl rfl ?_
    obtain ⟨b6, hb, H⟩ := H
    refine xt_getR dX11_orOf_29 (flX11_174 rfl) ft_13_66 ho1.1 ho1.2 hb ?_
    refine xt_iload (j := 3) dX11_orOf_32 rfl ?_
    obtain ⟨ho7, H⟩ := H
    obtain ⟨hi, H⟩ := H
    refine xt_iald dX11_orOf_34 ho7.1 ho7.2 hi ?_
    refine xt_istore (lv' := [(4, .int (mAI M4 b6 (x4 : Int32).toNatClampNeg)), (3, .int r5), (0, .ref x0), (2, .int x2)]) dX11_orOf_35 (by decide) rfl ?_
    refine xt_goto (tgt := 10) dX11_orOf_37 (by decide) ?_
    exact xt_sub (lv' := [(0, .ref x0), (2, .int x2), (3, .int r5), (4, .int (mAI M4 b6 (x4 : Int32).toNatClampNeg))]) [2, 3, 1, 0] rfl H
def DX11_orOf_0 (h : Nat) (x0 : Nat) (x1 : Int32) (x2 : Int32) (M : Mem) (Q : Option Value → Mem → Prop) : Prop :=
  ok M x0 13 ∧ ∃ b2 : Nat, mR M x0 64 = some b2 ∧ ok M b2 21 ∧ vp_in x1 (mL M b2) ∧ T (h + 1) mdX11_orOf 10 [(0, .ref x0), (2, .int x2), (3, .int 0), (4, .int (mAI M b2 (x1 : Int32).toNatClampNeg))] [] M Q
set_option maxRecDepth 20000 in
set_option maxHeartbeats 2000000 in
theorem VX11_orOf_0 {h : Nat} {x0 : Nat} {x1 : Int32} {x2 : Int32} {M : Mem} {Q : Option Value → Mem → Prop} (H : DX11_orOf_0 h x0 x1 x2 M Q) : T (h + 1) mdX11_orOf 0 [(0, .ref x0), (1, .int x1), (2, .int x2)] [] M Q := by
  unfold DX11_orOf_0 at H
  refine xt_iconst (v := 0) dX11_orOf_0 (by decide) ?_
  refine xt_istore_n (lv' := [(3, .int 0), (0, .ref x0), (1, .int x1), (2, .int x2)]) dX11_orOf_1 rfl (by decide) rfl ?_
  refine xt_aload_n (j := 1) dX11_orOf_2 rfl rfl ?_
  obtain ⟨ho1, H⟩ := H
  obtain ⟨b2, hb, H⟩ := H
  refine xt_getR dX11_orOf_3 (flX11_168 rfl) ft_13_64 ho1.1 ho1.2 hb ?_
  refine xt_iload_n (j := 2) dX11_orOf_6 rfl rfl ?_
  obtain ⟨ho3, H⟩ := H
  obtain ⟨hi, H⟩ := H
  refine xt_iald dX11_orOf_7 ho3.1 ho3.2 hi ?_
  refine xt_istore (lv' := [(4, .int (mAI M b2 (x1 : Int32).toNatClampNeg)), (3, .int 0), (0, .ref x0), (1, .int x1), (2, .int x2)]) dX11_orOf_8 (by decide) rfl ?_
  exact xt_sub (lv' := [(0, .ref x0), (2, .int x2), (3, .int 0), (4, .int (mAI M b2 (x1 : Int32).toNatClampNeg))]) [2, 4, 1, 0] rfl H
theorem KX11_orOf {h : Nat} {x0 : Nat} {x1 : Int32} {x2 : Int32} {M : Mem} {Q : Option Value → Mem → Prop} (H : DX11_orOf_0 h x0 x1 x2 M Q) : E (h + 1) mdX11_orOf [.ref x0, .int x1, .int x2] M Q := E.of (by decide) (Nat.le_of_ble_eq_true rfl) (fun _ _ _ => trivial) (VX11_orOf_0 H)
def DX11_allOf_74 (h : Nat) (x0 : Nat) (x1 : Int32) (x2 : Int32) (x3 : Int32) (x4 : Int32) (x5 : Int32) (x6 : Int32) (M : Mem) (Q : Option Value → Mem → Prop) : Prop :=
  (x2 < x6 → E h mdX11_both [.int x3, .int x5] M (fun r M1 => mE M M1 → ∃ r2 : Int32, r = some (.int r2) ∧ ok M1 x0 13 ∧ ∃ b4 : Nat, mR M1 x0 66 = some b4 ∧ ok M1 b4 21 ∧ vp_in x4 (mL M1 b4) ∧ T (h + 1) mdX11_allOf 15 [(0, .ref x0), (1, .int x1), (2, .int x2), (3, .int r2), (4, .int (mAI M1 b4 (x4 : Int32).toNatClampNeg))] [] M1 Q)) ∧
  (¬ (x2 < x6) → ok M x0 13 ∧ E h mdX11_k [.ref x0, .int x4, .int x6] M (fun r M7 => mE M M7 → ∃ r8 : Int32, r = some (.int r8) ∧ E h mdX11_either [.int x5, .int r8] M7 (fun r M9 => mE M7 M9 → ∃ r10 : Int32, r = some (.int r10) ∧ T (h + 1) mdX11_allOf 74 [(0, .ref x0), (1, .int x1), (2, .int x2), (3, .int x3), (4, .int x4), (5, .int r10), (6, .int (x6 + 1))] [] M9 Q)))
set_option maxRecDepth 20000 in
set_option maxHeartbeats 2000000 in
theorem VX11_allOf_74 {h : Nat} {x0 : Nat} {x1 : Int32} {x2 : Int32} {x3 : Int32} {x4 : Int32} {x5 : Int32} {x6 : Int32} {M : Mem} {Q : Option Value → Mem → Prop} (H : DX11_allOf_74 h x0 x1 x2 x3 x4 x5 x6 M Q) : T (h + 1) mdX11_allOf 74 [(0, .ref x0), (1, .int x1), (2, .int x2), (3, .int x3), (4, .int x4), (5, .int x5), (6, .int x6)] [] M Q := by
  unfold DX11_allOf_74 at H
  refine xt_iload (j := 6) dX11_allOf_74 rfl ?_
  refine xt_iload_n (j := 2) dX11_allOf_76 rfl rfl ?_
  refine xt_icmp_gt (tgt := 101) dX11_allOf_77 (by decide) (fun hc => ?_) (fun hc => ?_)
  · have H := H.1 hc
    refine xt_iload_n (j := 3) dX11_allOf_101 rfl rfl ?_
    refine xt_iload (j := 5) dX11_allOf_102 rfl ?_
    refine xt_callS (h2 := h) (as := [.int x3, .int x5]) (st := []) dX11_allOf_104 (mlX11_736 rfl) rfl (by first | decide | (simp [Value.category]; done)) (Nat.le_refl _) H (fun r M1 HH hE => ?_)
    obtain ⟨r2, hr, H⟩ := HH hE
    subst hr
    show T _ _ _ _ [.int r2] _ _
    refine xt_istore_n (lv' := [(3, .int r2), (0, .ref x0), (1, .int x1), (2, .int x2), (4, .int x4), (5, .int x5), (6, .int x6)]) dX11_allOf_107 rfl (by decide) rfl ?_
    refine xt_aload_n (j := 1) dX11_allOf_108 rfl rfl ?_
    obtain ⟨ho3, H⟩ := H
    obtain ⟨b4, hb, H⟩ := H
    refine xt_getR dX11_allOf_109 (flX11_174 rfl) ft_13_66 ho3.1 ho3.2 hb ?_
    refine xt_iload (j := 4) dX11_allOf_112 rfl ?_
    obtain ⟨ho5, H⟩ := H
    obtain ⟨hi, H⟩ := H
    refine xt_iald dX11_allOf_114 ho5.1 ho5.2 hi ?_
    refine xt_istore (lv' := [(4, .int (mAI M1 b4 (x4 : Int32).toNatClampNeg)), (3, .int r2), (0, .ref x0), (1, .int x1), (2, .int x2), (5, .int x5), (6, .int x6)]) dX11_allOf_115 (by decide) rfl ?_
    refine xt_goto (tgt := 15) dX11_allOf_117 (by decide) ?_
    exact xt_sub (lv' := [(0, .ref x0), (1, .int x1), (2, .int x2), (3, .int r2), (4, .int (mAI M1 b4 (x4 : Int32).toNatClampNeg))]) [2, 3, 4, 1, 0] rfl H
  · have H := H.2 hc
    refine xt_iload (j := 5) dX11_allOf_80 rfl ?_
    refine xt_aload_n (j := 0) dX11_allOf_82 rfl rfl ?_
    refine xt_iload (j := 4) dX11_allOf_83 rfl ?_
    refine xt_iload (j := 6) dX11_allOf_85 rfl ?_
    obtain ⟨ho6, H⟩ := H
    refine xt_callV (h2 := h) (as := [.int x4, .int x6]) (st := [.int x5]) dX11_allOf_87 (mlX11_761 rfl) rfl ho6.1 ⟨by rw [ho6.2]; rfl, by rw [ho6.2]; decide⟩ (by first | decide | (simp [Value.category]; done)) (Nat.le_refl _) H (fun r M7 HH hE => ?_)
    obtain ⟨r8, hr, H⟩ := HH hE
    subst hr
    have ho6 := ok_E ho6 hE
    show T _ _ _ _ [.int r8, .int x5] _ _
    refine xt_callS (h2 := h) (as := [.int x5, .int r8]) (st := []) dX11_allOf_90 (mlX11_739 rfl) rfl (by first | decide | (simp [Value.category]; done)) (Nat.le_refl _) H (fun r M9 HH hE => ?_)
    obtain ⟨r10, hr, H⟩ := HH hE
    subst hr
    have ho6 := ok_E ho6 hE
    show T _ _ _ _ [.int r10] _ _
    refine xt_istore (lv' := [(5, .int r10), (0, .ref x0), (1, .int x1), (2, .int x2), (3, .int x3), (4, .int x4), (6, .int x6)]) dX11_allOf_93 (by decide) rfl ?_
    refine xt_iinc (j := 6) (v := x6 + 1) (lv' := [(6, .int (x6 + 1)), (5, .int r10), (0, .ref x0), (1, .int x1), (2, .int x2), (3, .int x3), (4, .int x4)]) dX11_allOf_95 rfl (by rfl) (by decide) rfl ?_
    refine xt_goto (tgt := 74) dX11_allOf_98 (by decide) ?_
    exact xt_sub (lv' := [(0, .ref x0), (1, .int x1), (2, .int x2), (3, .int x3), (4, .int x4), (5, .int r10), (6, .int (x6 + 1))]) [2, 3, 4, 5, 6, 1, 0] rfl H
def DX11_allOf_69 (h : Nat) (x0 : Nat) (x1 : Int32) (x2 : Int32) (x3 : Int32) (x4 : Int32) (s0 : Int32) (M : Mem) (Q : Option Value → Mem → Prop) : Prop :=
  T (h + 1) mdX11_allOf 74 [(0, .ref x0), (1, .int x1), (2, .int x2), (3, .int x3), (4, .int x4), (5, .int s0), (6, .int 0)] [] M Q
set_option maxRecDepth 20000 in
set_option maxHeartbeats 2000000 in
theorem VX11_allOf_69 {h : Nat} {x0 : Nat} {x1 : Int32} {x2 : Int32} {x3 : Int32} {x4 : Int32} {s0 : Int32} {M : Mem} {Q : Option Value → Mem → Prop} (H : DX11_allOf_69 h x0 x1 x2 x3 x4 s0 M Q) : T (h + 1) mdX11_allOf 69 [(0, .ref x0), (1, .int x1), (2, .int x2), (3, .int x3), (4, .int x4)] [.int s0] M Q := by
  unfold DX11_allOf_69 at H
  refine xt_istore (lv' := [(5, .int s0), (0, .ref x0), (1, .int x1), (2, .int x2), (3, .int x3), (4, .int x4)]) dX11_allOf_69 (by decide) rfl ?_
  refine xt_iconst (v := 0) dX11_allOf_71 (by decide) ?_
  refine xt_istore (lv' := [(6, .int 0), (5, .int s0), (0, .ref x0), (1, .int x1), (2, .int x2), (3, .int x3), (4, .int x4)]) dX11_allOf_72 (by decide) rfl ?_
  exact xt_sub (lv' := [(0, .ref x0), (1, .int x1), (2, .int x2), (3, .int x3), (4, .int x4), (5, .int s0), (6, .int 0)]) [2, 3, 4, 5, 6, 1, 0] rfl H
def DX11_allOf_68 (h : Nat) (x0 : Nat) (x1 : Int32) (x2 : Int32) (x3 : Int32) (x4 : Int32) (M : Mem) (Q : Option Value → Mem → Prop) : Prop :=
  DX11_allOf_69 h x0 x1 x2 x3 x4 0 M Q
set_option maxRecDepth 20000 in
set_option maxHeartbeats 2000000 in
theorem VX11_allOf_68 {h : Nat} {x0 : Nat} {x1 : Int32} {x2 : Int32} {x3 : Int32} {x4 : Int32} {M : Mem} {Q : Option Value → Mem → Prop} (H : DX11_allOf_68 h x0 x1 x2 x3 x4 M Q) : T (h + 1) mdX11_allOf 68 [(0, .ref x0), (1, .int x1), (2, .int x2), (3, .int x3), (4, .int x4)] [] M Q := by
  unfold DX11_allOf_68 at H
  refine xt_iconst (v := 0) dX11_allOf_68 (by decide) ?_
  exact xt_sub [0, 1, 2, 3, 4] rfl (VX11_allOf_69 H)
def DX11_allOf_15 (h : Nat) (x0 : Nat) (x1 : Int32) (x2 : Int32) (x3 : Int32) (x4 : Int32) (M : Mem) (Q : Option Value → Mem → Prop) : Prop :=
  (x4 = (-1) → Q (some (.int x3)) M) ∧
  (¬ (x4 = (-1)) → ok M x0 13 ∧ ∃ b2 : Nat, mR M x0 69 = some b2 ∧ ok M b2 21 ∧ vp_in x1 (mL M b2) ∧ (((mI M x0 85) &&& (mAI M b2 (x1 : Int32).toNatClampNeg)) = 0 → DX11_allOf_68 h x0 x1 x2 x3 x4 M Q) ∧
  (¬ (((mI M x0 85) &&& (mAI M b2 (x1 : Int32).toNatClampNeg)) = 0) → ∃ b4 : Nat, mR M x0 69 = some b4 ∧ ok M b4 21 ∧ vp_in x4 (mL M b4) ∧ (¬ ((mI M x0 85) &&& (mAI M b4 (x4 : Int32).toNatClampNeg)) = 0 → DX11_allOf_68 h x0 x1 x2 x3 x4 M Q) ∧
  (((mI M x0 85) &&& (mAI M b4 (x4 : Int32).toNatClampNeg)) = 0 → ∃ b6 : Nat, mR M x0 78 = some b6 ∧ ok M b6 21 ∧ vp_in (x1 - (700 * (mI M x0 84))) (mL M b6) ∧ DX11_allOf_69 h x0 x1 x2 x3 x4 (mAI M b6 (x1 - (700 * (mI M x0 84)) : Int32).toNatClampNeg) M Q)))
set_option maxRecDepth 20000 in
set_option maxHeartbeats 2000000 in
theorem VX11_allOf_15 {h : Nat} {x0 : Nat} {x1 : Int32} {x2 : Int32} {x3 : Int32} {x4 : Int32} {M : Mem} {Q : Option Value → Mem → Prop} (H : DX11_allOf_15 h x0 x1 x2 x3 x4 M Q) : T (h + 1) mdX11_allOf 15 [(0, .ref x0), (1, .int x1), (2, .int x2), (3, .int x3), (4, .int x4)] [] M Q := by
  unfold DX11_allOf_15 at H
  refine xt_iload (j := 4) dX11_allOf_15 rfl ?_
  refine xt_iconst (v := -1) dX11_allOf_17 (by decide) ?_
  refine xt_icmp_eq (tgt := 120) dX11_allOf_18 (by decide) (fun hc => ?_) (fun hc => ?_)
  · have H := H.1 hc
    refine xt_iload_n (j := 3) dX11_allOf_120 rfl rfl ?_
    exact xt_ireturn dX11_allOf_121 rfl H
  · have H := H.2 hc
    refine xt_aload_n (j := 0) dX11_allOf_21 rfl rfl ?_
    obtain ⟨ho1, H⟩ := H
    refine xt_getI dX11_allOf_22 (flX11_764 rfl) ft_13_85 ho1.1 ho1.2 ?_
    refine xt_aload_n (j := 0) dX11_allOf_25 rfl rfl ?_
    obtain ⟨b2, hb, H⟩ := H
    refine xt_getR dX11_allOf_26 (flX11_183 rfl) ft_13_69 ho1.1 ho1.2 hb ?_
    refine xt_iload_n (j := 1) dX11_allOf_29 rfl rfl ?_
    obtain ⟨ho3, H⟩ := H
    obtain ⟨hi, H⟩ := H
    refine xt_iald dX11_allOf_30 ho3.1 ho3.2 hi ?_
    refine xt_iand dX11_allOf_31 ?_
    refine xt_if_eq (tgt := 68) dX11_allOf_32 (by decide) (fun hc => ?_) (fun hc => ?_)
    · have H := H.1 hc
      exact xt_sub [0, 1, 2, 3, 4] rfl (VX11_allOf_68 H)
    · have H := H.2 hc
      refine xt_aload_n (j := 0) dX11_allOf_35 rfl rfl ?_
      refine xt_getI dX11_allOf_36 (flX11_764 rfl) ft_13_85 ho1.1 ho1.2 ?_
      refine xt_aload_n (j := 0) dX11_allOf_39 rfl rfl ?_
      obtain ⟨b4, hb, H⟩ := H
      refine xt_getR dX11_allOf_40 (flX11_183 rfl) ft_13_69 ho1.1 ho1.2 hb ?_
      refine xt_iload (j := 4) dX11_allOf_43 rfl ?_
      obtain ⟨ho5, H⟩ := H
      obtain ⟨hi, H⟩ := H
      refine xt_iald dX11_allOf_45 ho5.1 ho5.2 hi ?_
      refine xt_iand dX11_allOf_46 ?_
      refine xt_if_ne (tgt := 68) dX11_allOf_47 (by decide) (fun hc => ?_) (fun hc => ?_)
      · have H := H.1 hc
        exact xt_sub [0, 1, 2, 3, 4] rfl (VX11_allOf_68 H)
      · have H := H.2 hc
        refine xt_aload_n (j := 0) dX11_allOf_50 rfl rfl ?_
        obtain ⟨b6, hb, H⟩ := H
        refine xt_getR dX11_allOf_51 (flX11_210 rfl) ft_13_78 ho1.1 ho1.2 hb ?_
        refine xt_iload_n (j := 1) dX11_allOf_54 rfl rfl ?_
        refine xt_sipush (v := 700) dX11_allOf_55 (by decide) ?_
        refine xt_aload_n (j := 0) dX11_allOf_58 rfl rfl ?_
        refine xt_getI dX11_allOf_59 (flX11_742 rfl) ft_13_84 ho1.1 ho1.2 ?_
        refine xt_imul dX11_allOf_62 ?_
        refine xt_isub dX11_allOf_63 ?_
        obtain ⟨ho7, H⟩ := H
        obtain ⟨hi, H⟩ := H
        refine xt_iald dX11_allOf_64 ho7.1 ho7.2 hi ?_
        refine xt_goto (tgt := 69) dX11_allOf_65 (by decide) ?_
        exact xt_sub [0, 1, 2, 3, 4] rfl (VX11_allOf_69 H)
def DX11_allOf_0 (h : Nat) (x0 : Nat) (x1 : Int32) (x2 : Int32) (M : Mem) (Q : Option Value → Mem → Prop) : Prop :=
  ok M x0 13 ∧ E h mdX11_orOf [.ref x0, .int x1, .int x2] M (fun r M2 => mE M M2 → ∃ r3 : Int32, r = some (.int r3) ∧ ∃ b4 : Nat, mR M2 x0 64 = some b4 ∧ ok M2 b4 21 ∧ vp_in x1 (mL M2 b4) ∧ T (h + 1) mdX11_allOf 15 [(0, .ref x0), (1, .int x1), (2, .int x2), (3, .int r3), (4, .int (mAI M2 b4 (x1 : Int32).toNatClampNeg))] [] M2 Q)
set_option maxRecDepth 20000 in
set_option maxHeartbeats 2000000 in
theorem VX11_allOf_0 {h : Nat} {x0 : Nat} {x1 : Int32} {x2 : Int32} {M : Mem} {Q : Option Value → Mem → Prop} (H : DX11_allOf_0 h x0 x1 x2 M Q) : T (h + 1) mdX11_allOf 0 [(0, .ref x0), (1, .int x1), (2, .int x2)] [] M Q := by
  unfold DX11_allOf_0 at H
  refine xt_aload_n (j := 0) dX11_allOf_0 rfl rfl ?_
  refine xt_iload_n (j := 1) dX11_allOf_1 rfl rfl ?_
  refine xt_iload_n (j := 2) dX11_allOf_2 rfl rfl ?_
  obtain ⟨ho1, H⟩ := H
  refine xt_callV (h2 := h) (as := [.int x1, .int x2]) (st := []) dX11_allOf_3 (mlX11_771 rfl) rfl ho1.1 ⟨by rw [ho1.2]; rfl, by rw [ho1.2]; decide⟩ (by first | decide | (simp [Value.category]; done)) (Nat.le_refl _) H (fun r M2 HH hE => ?_)
  obtain ⟨r3, hr, H⟩ := HH hE
  subst hr
  have ho1 := ok_E ho1 hE
  show T _ _ _ _ [.int r3] _ _
  refine xt_istore_n (lv' := [(3, .int r3), (0, .ref x0), (1, .int x1), (2, .int x2)]) dX11_allOf_6 rfl (by decide) rfl ?_
  refine xt_aload_n (j := 1) dX11_allOf_7 rfl rfl ?_
  obtain ⟨b4, hb, H⟩ := H
  refine xt_getR dX11_allOf_8 (flX11_168 rfl) ft_13_64 ho1.1 ho1.2 hb ?_
  refine xt_iload_n (j := 2) dX11_allOf_11 rfl rfl ?_
  obtain ⟨ho5, H⟩ := H
  obtain ⟨hi, H⟩ := H
  refine xt_iald dX11_allOf_12 ho5.1 ho5.2 hi ?_
  refine xt_istore (lv' := [(4, .int (mAI M2 b4 (x1 : Int32).toNatClampNeg)), (3, .int r3), (0, .ref x0), (1, .int x1), (2, .int x2)]) dX11_allOf_13 (by decide) rfl ?_
  exact xt_sub (lv' := [(0, .ref x0), (1, .int x1), (2, .int x2), (3, .int r3), (4, .int (mAI M2 b4 (x1 : Int32).toNatClampNeg))]) [2, 3, 4, 1, 0] rfl H
theorem KX11_allOf {h : Nat} {x0 : Nat} {x1 : Int32} {x2 : Int32} {M : Mem} {Q : Option Value → Mem → Prop} (H : DX11_allOf_0 h x0 x1 x2 M Q) : E (h + 1) mdX11_allOf [.ref x0, .int x1, .int x2] M Q := E.of (by decide) (Nat.le_of_ble_eq_true rfl) (fun _ _ _ => trivial) (VX11_allOf_0 H)
def DX11_codeValue_411 (h : Nat) (s0 : Int32) (M : Mem) (Q : Option Value → Mem → Prop) : Prop :=
  Q (some (.int s0)) M
set_option maxRecDepth 20000 in
set_option maxHeartbeats 2000000 in
theorem VX11_codeValue_411 {h : Nat} {s0 : Int32} {M : Mem} {Q : Option Value → Mem → Prop} (H : DX11_codeValue_411 h s0 M Q) : T (h + 1) mdX11_codeValue 411 [] [.int s0] M Q := by
  unfold DX11_codeValue_411 at H
  exact xt_ireturn dX11_codeValue_411 rfl H
def DX11_codeValue_118 (h : Nat) (s0 : Int32) (M : Mem) (Q : Option Value → Mem → Prop) : Prop :=
  Q (some (.int s0)) M
set_option maxRecDepth 20000 in
set_option maxHeartbeats 2000000 in
theorem VX11_codeValue_118 {h : Nat} {s0 : Int32} {M : Mem} {Q : Option Value → Mem → Prop} (H : DX11_codeValue_118 h s0 M Q) : T (h + 1) mdX11_codeValue 118 [] [.int s0] M Q := by
  unfold DX11_codeValue_118 at H
  exact xt_ireturn dX11_codeValue_118 rfl H
def DX11_codeValue_117 (h : Nat) (M : Mem) (Q : Option Value → Mem → Prop) : Prop :=
  DX11_codeValue_118 h 0 M Q
set_option maxRecDepth 20000 in
set_option maxHeartbeats 2000000 in
theorem VX11_codeValue_117 {h : Nat} {M : Mem} {Q : Option Value → Mem → Prop} (H : DX11_codeValue_117 h  M Q) : T (h + 1) mdX11_codeValue 117 [] [] M Q := by
  unfold DX11_codeValue_117 at H
  refine xt_iconst (v := 0) dX11_codeValue_117 (by decide) ?_
  exact xt_sub [] rfl (VX11_codeValue_118 H)
def DX11_codeValue_139 (h : Nat) (s0 : Int32) (M : Mem) (Q : Option Value → Mem → Prop) : Prop :=
  Q (some (.int s0)) M
set_option maxRecDepth 20000 in
set_option maxHeartbeats 2000000 in
theorem VX11_codeValue_139 {h : Nat} {s0 : Int32} {M : Mem} {Q : Option Value → Mem → Prop} (H : DX11_codeValue_139 h s0 M Q) : T (h + 1) mdX11_codeValue 139 [] [.int s0] M Q := by
  unfold DX11_codeValue_139 at H
  exact xt_ireturn dX11_codeValue_139 rfl H
def DX11_codeValue_215 (h : Nat) (x5 : Int32) (M : Mem) (Q : Option Value → Mem → Prop) : Prop :=
  Q (some (.int x5)) M
set_option maxRecDepth 20000 in
set_option maxHeartbeats 2000000 in
theorem VX11_codeValue_215 {h : Nat} {x5 : Int32} {M : Mem} {Q : Option Value → Mem → Prop} (H : DX11_codeValue_215 h x5 M Q) : T (h + 1) mdX11_codeValue 215 [(5, .int x5)] [] M Q := by
  unfold DX11_codeValue_215 at H
  refine xt_iload (j := 0) dX11_codeValue_215 rfl ?_
  exact xt_ireturn dX11_codeValue_217 rfl H
def DX11_codeValue_204 (h : Nat) (s0 : Int32) (s1 : Int32) (s2 : Int32) (M : Mem) (Q : Option Value → Mem → Prop) : Prop :=
  E h mdX11_other [.int s2] M (fun r M1 => mE M M1 → ∃ r2 : Int32, r = some (.int r2) ∧ E h mdX11_both [.int s1, .int r2] M1 (fun r M3 => mE M1 M3 → ∃ r4 : Int32, r = some (.int r4) ∧ E h mdX11_either [.int s0, .int r4] M3 (fun r M5 => mE M3 M5 → ∃ r6 : Int32, r = some (.int r6) ∧ DX11_codeValue_215 h r6 M5 Q)))
set_option maxRecDepth 20000 in
set_option maxHeartbeats 2000000 in
theorem VX11_codeValue_204 {h : Nat} {s0 : Int32} {s1 : Int32} {s2 : Int32} {M : Mem} {Q : Option Value → Mem → Prop} (H : DX11_codeValue_204 h s0 s1 s2 M Q) : T (h + 1) mdX11_codeValue 204 [] [.int s2, .int s1, .int s0] M Q := by
  unfold DX11_codeValue_204 at H
  refine xt_callS (h2 := h) (as := [.int s2]) (st := [.int s1, .int s0]) dX11_codeValue_204 (mlX11_733 rfl) rfl (by first | decide | (simp [Value.category]; done)) (Nat.le_refl _) H (fun r M1 HH hE => ?_)
  obtain ⟨r2, hr, H⟩ := HH hE
  subst hr
  show T _ _ _ _ [.int r2, .int s1, .int s0] _ _
  refine xt_callS (h2 := h) (as := [.int s1, .int r2]) (st := [.int s0]) dX11_codeValue_207 (mlX11_736 rfl) rfl (by first | decide | (simp [Value.category]; done)) (Nat.le_refl _) H (fun r M3 HH hE => ?_)
  obtain ⟨r4, hr, H⟩ := HH hE
  subst hr
  show T _ _ _ _ [.int r4, .int s0] _ _
  refine xt_callS (h2 := h) (as := [.int s0, .int r4]) (st := []) dX11_codeValue_210 (mlX11_739 rfl) rfl (by first | decide | (simp [Value.category]; done)) (Nat.le_refl _) H (fun r M5 HH hE => ?_)
  obtain ⟨r6, hr, H⟩ := HH hE
  subst hr
  show T _ _ _ _ [.int r6] _ _
  refine xt_istore (lv' := [(5, .int r6)]) dX11_codeValue_213 (by decide) rfl ?_
  exact xt_sub [0] rfl (VX11_codeValue_215 H)
def DX11_codeValue_242 (h : Nat) (s0 : Int32) (M : Mem) (Q : Option Value → Mem → Prop) : Prop :=
  Q (some (.int s0)) M
set_option maxRecDepth 20000 in
set_option maxHeartbeats 2000000 in
theorem VX11_codeValue_242 {h : Nat} {s0 : Int32} {M : Mem} {Q : Option Value → Mem → Prop} (H : DX11_codeValue_242 h s0 M Q) : T (h + 1) mdX11_codeValue 242 [] [.int s0] M Q := by
  unfold DX11_codeValue_242 at H
  exact xt_ireturn dX11_codeValue_242 rfl H
def DX11_codeValue_258 (h : Nat) (s0 : Int32) (M : Mem) (Q : Option Value → Mem → Prop) : Prop :=
  Q (some (.int s0)) M
set_option maxRecDepth 20000 in
set_option maxHeartbeats 2000000 in
theorem VX11_codeValue_258 {h : Nat} {s0 : Int32} {M : Mem} {Q : Option Value → Mem → Prop} (H : DX11_codeValue_258 h s0 M Q) : T (h + 1) mdX11_codeValue 258 [] [.int s0] M Q := by
  unfold DX11_codeValue_258 at H
  exact xt_ireturn dX11_codeValue_258 rfl H
def DX11_codeValue_321 (h : Nat) (s0 : Int32) (M : Mem) (Q : Option Value → Mem → Prop) : Prop :=
  Q (some (.int s0)) M
set_option maxRecDepth 20000 in
set_option maxHeartbeats 2000000 in
theorem VX11_codeValue_321 {h : Nat} {s0 : Int32} {M : Mem} {Q : Option Value → Mem → Prop} (H : DX11_codeValue_321 h s0 M Q) : T (h + 1) mdX11_codeValue 321 [] [.int s0] M Q := by
  unfold DX11_codeValue_321 at H
  exact xt_ireturn dX11_codeValue_321 rfl H
def DX11_codeValue_305 (h : Nat) (x0 : Nat) (x1 : Int32) (s0 : Int32) (s1 : Int32) (M : Mem) (Q : Option Value → Mem → Prop) : Prop :=
  ok M x0 13 ∧ ∃ b2 : Nat, mR M x0 63 = some b2 ∧ ok M b2 21 ∧ vp_in x1 (mL M b2) ∧ E h mdX11_condValue [.ref x0, .int (mAI M b2 (x1 : Int32).toNatClampNeg)] M (fun r M4 => mE M M4 → ∃ r5 : Int32, r = some (.int r5) ∧ E h mdX11_both [.int s1, .int r5] M4 (fun r M6 => mE M4 M6 → ∃ r7 : Int32, r = some (.int r7) ∧ E h mdX11_either [.int s0, .int r7] M6 (fun r M8 => mE M6 M8 → ∃ r9 : Int32, r = some (.int r9) ∧ DX11_codeValue_321 h r9 M8 Q)))
set_option maxRecDepth 20000 in
set_option maxHeartbeats 2000000 in
theorem VX11_codeValue_305 {h : Nat} {x0 : Nat} {x1 : Int32} {s0 : Int32} {s1 : Int32} {M : Mem} {Q : Option Value → Mem → Prop} (H : DX11_codeValue_305 h x0 x1 s0 s1 M Q) : T (h + 1) mdX11_codeValue 305 [(0, .ref x0), (1, .int x1)] [.int s1, .int s0] M Q := by
  unfold DX11_codeValue_305 at H
  refine xt_aload_n (j := 0) dX11_codeValue_305 rfl rfl ?_
  refine xt_aload_n (j := 0) dX11_codeValue_306 rfl rfl ?_
  obtain ⟨ho1, H⟩ := H
  obtain ⟨b2, hb, H⟩ := H
  refine xt_getR dX11_codeValue_307 (flX11_165 rfl) ft_13_63 ho1.1 ho1.2 hb ?_
  refine xt_iload_n (j := 1) dX11_codeValue_310 rfl rfl ?_
  obtain ⟨ho3, H⟩ := H
  obtain ⟨hi, H⟩ := H
  refine xt_iald dX11_codeValue_311 ho3.1 ho3.2 hi ?_
  refine xt_callV (h2 := h) (as := [.int (mAI M b2 (x1 : Int32).toNatClampNeg)]) (st := [.int s1, .int s0]) dX11_codeValue_312 (mlX11_758 rfl) rfl ho1.1 ⟨by rw [ho1.2]; rfl, by rw [ho1.2]; decide⟩ (by first | decide | (simp [Value.category]; done)) (Nat.le_refl _) H (fun r M4 HH hE => ?_)
  obtain ⟨r5, hr, H⟩ := HH hE
  subst hr
  have ho1 := ok_E ho1 hE
  show T _ _ _ _ [.int r5, .int s1, .int s0] _ _
  refine xt_callS (h2 := h) (as := [.int s1, .int r5]) (st := [.int s0]) dX11_codeValue_315 (mlX11_736 rfl) rfl (by first | decide | (simp [Value.category]; done)) (Nat.le_refl _) H (fun r M6 HH hE => ?_)
  obtain ⟨r7, hr, H⟩ := HH hE
  subst hr
  have ho1 := ok_E ho1 hE
  show T _ _ _ _ [.int r7, .int s0] _ _
  refine xt_callS (h2 := h) (as := [.int s0, .int r7]) (st := []) dX11_codeValue_318 (mlX11_739 rfl) rfl (by first | decide | (simp [Value.category]; done)) (Nat.le_refl _) H (fun r M8 HH hE => ?_)
  obtain ⟨r9, hr, H⟩ := HH hE
  subst hr
  have ho1 := ok_E ho1 hE
  show T _ _ _ _ [.int r9] _ _
  exact xt_sub [] rfl (VX11_codeValue_321 H)
def DX11_codeValue_396 (h : Nat) (s0 : Int32) (M : Mem) (Q : Option Value → Mem → Prop) : Prop :=
  Q (some (.int s0)) M
set_option maxRecDepth 20000 in
set_option maxHeartbeats 2000000 in
theorem VX11_codeValue_396 {h : Nat} {s0 : Int32} {M : Mem} {Q : Option Value → Mem → Prop} (H : DX11_codeValue_396 h s0 M Q) : T (h + 1) mdX11_codeValue 396 [] [.int s0] M Q := by
  unfold DX11_codeValue_396 at H
  exact xt_ireturn dX11_codeValue_396 rfl H
def DX11_codeValue_0 (h : Nat) (x0 : Nat) (x1 : Int32) (x2 : Int32) (M : Mem) (Q : Option Value → Mem → Prop) : Prop :=
  ok M x0 13 ∧ ∃ b2 : Nat, mR M x0 64 = some b2 ∧ ok M b2 21 ∧ vp_in x1 (mL M b2) ∧ ∃ b4 : Nat, mR M x0 62 = some b4 ∧ ok M b4 21 ∧ vp_in x1 (mL M b4) ∧ ((mAI M b4 (x1 : Int32).toNatClampNeg) = 2 → (¬ x2 = 1 → (¬ x2 = 0 → DX11_codeValue_117 h  M Q) ∧
  (x2 = 0 → ∃ b6 : Nat, mR M x0 69 = some b6 ∧ ok M b6 21 ∧ vp_in x1 (mL M b6) ∧ (((mI M x0 85) &&& (mAI M b6 (x1 : Int32).toNatClampNeg)) = 0 → DX11_codeValue_117 h  M Q) ∧
  (¬ (((mI M x0 85) &&& (mAI M b6 (x1 : Int32).toNatClampNeg)) = 0) → ∃ b8 : Nat, mR M x0 78 = some b8 ∧ ok M b8 21 ∧ vp_in (x1 - (700 * (mI M x0 84))) (mL M b8) ∧ DX11_codeValue_118 h (mAI M b8 (x1 - (700 * (mI M x0 84)) : Int32).toNatClampNeg) M Q))) ∧
  (x2 = 1 → ∃ b10 : Nat, mR M x0 77 = some b10 ∧ ok M b10 21 ∧ vp_in (x1 - (700 * (mI M x0 84))) (mL M b10) ∧ DX11_codeValue_118 h (mAI M b10 (x1 - (700 * (mI M x0 84)) : Int32).toNatClampNeg) M Q)) ∧
  ((mAI M b4 (x1 : Int32).toNatClampNeg) = 3 → ∃ b12 : Nat, mR M x0 70 = some b12 ∧ ok M b12 21 ∧ vp_in x1 (mL M b12) ∧ (¬ x2 = (mAI M b12 (x1 : Int32).toNatClampNeg) → DX11_codeValue_139 h 0 M Q) ∧
  (x2 = (mAI M b12 (x1 : Int32).toNatClampNeg) → ∃ b14 : Nat, mR M x0 77 = some b14 ∧ ok M b14 21 ∧ vp_in (x1 - (700 * (mI M x0 84))) (mL M b14) ∧ DX11_codeValue_139 h (mAI M b14 (x1 - (700 * (mI M x0 84)) : Int32).toNatClampNeg) M Q)) ∧
  ((mAI M b4 (x1 : Int32).toNatClampNeg) = 4 → E h mdX11_orOf [.ref x0, .int x1, .int x2] M (fun r M16 => mE M M16 → ∃ r17 : Int32, r = some (.int r17) ∧ (¬ x2 = 0 → DX11_codeValue_215 h r17 M16 Q) ∧
  (x2 = 0 → ∃ b18 : Nat, mR M16 x0 66 = some b18 ∧ ok M16 b18 21 ∧ vp_in (mAI M b2 (x1 : Int32).toNatClampNeg) (mL M16 b18) ∧ (¬ (mAI M16 b18 (mAI M b2 (x1 : Int32).toNatClampNeg : Int32).toNatClampNeg) = (-1) → DX11_codeValue_215 h r17 M16 Q) ∧
  ((mAI M16 b18 (mAI M b2 (x1 : Int32).toNatClampNeg : Int32).toNatClampNeg) = (-1) → ∃ b20 : Nat, mR M16 x0 77 = some b20 ∧ ok M16 b20 21 ∧ vp_in (x1 - (700 * (mI M x0 84))) (mL M16 b20) ∧ ∃ b22 : Nat, mR M16 x0 62 = some b22 ∧ ok M16 b22 21 ∧ vp_in x1 (mL M16 b22) ∧ (¬ (mAI M16 b22 (x1 : Int32).toNatClampNeg) = 5 → ∃ b24 : Nat, mR M16 x0 63 = some b24 ∧ ok M16 b24 21 ∧ vp_in x1 (mL M16 b24) ∧ E h mdX11_condValue [.ref x0, .int (mAI M16 b24 (x1 : Int32).toNatClampNeg)] M16 (fun r M26 => mE M16 M26 → ∃ r27 : Int32, r = some (.int r27) ∧ DX11_codeValue_204 h r17 (mAI M16 b20 (x1 - (700 * (mI M x0 84)) : Int32).toNatClampNeg) r27 M26 Q)) ∧
  ((mAI M16 b22 (x1 : Int32).toNatClampNeg) = 5 → ∃ b28 : Nat, mR M16 x0 63 = some b28 ∧ ok M16 b28 21 ∧ vp_in x1 (mL M16 b28) ∧ E h mdX11_ifAt [.ref x0, .int (mAI M16 b28 (x1 : Int32).toNatClampNeg)] M16 (fun r M30 => mE M16 M30 → ∃ r31 : Int32, r = some (.int r31) ∧ DX11_codeValue_204 h r17 (mAI M16 b20 (x1 - (700 * (mI M x0 84)) : Int32).toNatClampNeg) r31 M30 Q)))))) ∧
  ((mAI M b4 (x1 : Int32).toNatClampNeg) = 5 → E h mdX11_orOf [.ref x0, .int x1, .int x2] M (fun r M32 => mE M M32 → ∃ r33 : Int32, r = some (.int r33) ∧ (¬ x2 = 0 → DX11_codeValue_215 h r33 M32 Q) ∧
  (x2 = 0 → ∃ b34 : Nat, mR M32 x0 66 = some b34 ∧ ok M32 b34 21 ∧ vp_in (mAI M b2 (x1 : Int32).toNatClampNeg) (mL M32 b34) ∧ (¬ (mAI M32 b34 (mAI M b2 (x1 : Int32).toNatClampNeg : Int32).toNatClampNeg) = (-1) → DX11_codeValue_215 h r33 M32 Q) ∧
  ((mAI M32 b34 (mAI M b2 (x1 : Int32).toNatClampNeg : Int32).toNatClampNeg) = (-1) → ∃ b36 : Nat, mR M32 x0 77 = some b36 ∧ ok M32 b36 21 ∧ vp_in (x1 - (700 * (mI M x0 84))) (mL M32 b36) ∧ ∃ b38 : Nat, mR M32 x0 62 = some b38 ∧ ok M32 b38 21 ∧ vp_in x1 (mL M32 b38) ∧ (¬ (mAI M32 b38 (x1 : Int32).toNatClampNeg) = 5 → ∃ b40 : Nat, mR M32 x0 63 = some b40 ∧ ok M32 b40 21 ∧ vp_in x1 (mL M32 b40) ∧ E h mdX11_condValue [.ref x0, .int (mAI M32 b40 (x1 : Int32).toNatClampNeg)] M32 (fun r M42 => mE M32 M42 → ∃ r43 : Int32, r = some (.int r43) ∧ DX11_codeValue_204 h r33 (mAI M32 b36 (x1 - (700 * (mI M x0 84)) : Int32).toNatClampNeg) r43 M42 Q)) ∧
  ((mAI M32 b38 (x1 : Int32).toNatClampNeg) = 5 → ∃ b44 : Nat, mR M32 x0 63 = some b44 ∧ ok M32 b44 21 ∧ vp_in x1 (mL M32 b44) ∧ E h mdX11_ifAt [.ref x0, .int (mAI M32 b44 (x1 : Int32).toNatClampNeg)] M32 (fun r M46 => mE M32 M46 → ∃ r47 : Int32, r = some (.int r47) ∧ DX11_codeValue_204 h r33 (mAI M32 b36 (x1 - (700 * (mI M x0 84)) : Int32).toNatClampNeg) r47 M46 Q)))))) ∧
  ((mAI M b4 (x1 : Int32).toNatClampNeg) = 6 → (¬ x2 = 0 → E h mdX11_orOf [.ref x0, .int x1, .int x2] M (fun r M48 => mE M M48 → ∃ r49 : Int32, r = some (.int r49) ∧ DX11_codeValue_242 h r49 M48 Q)) ∧
  (x2 = 0 → ∃ b50 : Nat, mR M x0 65 = some b50 ∧ ok M b50 21 ∧ vp_in x1 (mL M b50) ∧ E h mdX11_k [.ref x0, .int (mAI M b50 (x1 : Int32).toNatClampNeg), .int 0] M (fun r M52 => mE M M52 → ∃ r53 : Int32, r = some (.int r53) ∧ DX11_codeValue_242 h r53 M52 Q))) ∧
  ((mAI M b4 (x1 : Int32).toNatClampNeg) = 7 → (¬ x2 = 0 → E h mdX11_k [.ref x0, .int (mAI M b2 (x1 : Int32).toNatClampNeg), .int x2] M (fun r M54 => mE M M54 → ∃ r55 : Int32, r = some (.int r55) ∧ DX11_codeValue_258 h r55 M54 Q)) ∧
  (x2 = 0 → DX11_codeValue_258 h 0 M Q)) ∧
  ((mAI M b4 (x1 : Int32).toNatClampNeg) = 8 → (x2 = 1 → E h mdX11_k [.ref x0, .int (mAI M b2 (x1 : Int32).toNatClampNeg), .int 1] M (fun r M56 => mE M M56 → ∃ r57 : Int32, r = some (.int r57) ∧ ∃ b58 : Nat, mR M56 x0 69 = some b58 ∧ ok M56 b58 21 ∧ vp_in x1 (mL M56 b58) ∧ (((mI M56 x0 85) &&& (mAI M56 b58 (x1 : Int32).toNatClampNeg)) = 0 → DX11_codeValue_305 h x0 x1 r57 0 M56 Q) ∧
  (¬ (((mI M56 x0 85) &&& (mAI M56 b58 (x1 : Int32).toNatClampNeg)) = 0) → ∃ b60 : Nat, mR M56 x0 78 = some b60 ∧ ok M56 b60 21 ∧ vp_in (x1 - (700 * (mI M x0 84))) (mL M56 b60) ∧ DX11_codeValue_305 h x0 x1 r57 (mAI M56 b60 (x1 - (700 * (mI M x0 84)) : Int32).toNatClampNeg) M56 Q))) ∧
  (¬ (x2 = 1) → E h mdX11_k [.ref x0, .int (mAI M b2 (x1 : Int32).toNatClampNeg), .int x2] M (fun r M62 => mE M M62 → ∃ r63 : Int32, r = some (.int r63) ∧ DX11_codeValue_321 h r63 M62 Q))) ∧
  ((mAI M b4 (x1 : Int32).toNatClampNeg) = 9 → E h mdX11_allOf [.ref x0, .int x1, .int x2] M (fun r M64 => mE M M64 → ∃ r65 : Int32, r = some (.int r65) ∧ Q (some (.int r65)) M64)) ∧
  ((mAI M b4 (x1 : Int32).toNatClampNeg) = 10 → (¬ x2 = 0 → (¬ x2 = 1 → ∃ b66 : Nat, mR M x0 74 = some b66 ∧ ok M b66 21 ∧ vp_in (mI M x0 84) (mL M b66) ∧ ((mAI M b66 (mI M x0 84 : Int32).toNatClampNeg) ≤ (x2 + 1) → DX11_codeValue_396 h 0 M Q) ∧
  (¬ ((mAI M b66 (mI M x0 84 : Int32).toNatClampNeg) ≤ (x2 + 1)) → E h mdX11_k [.ref x0, .int (mAI M b2 (x1 : Int32).toNatClampNeg), .int (x2 + 1)] M (fun r M68 => mE M M68 → ∃ r69 : Int32, r = some (.int r69) ∧ DX11_codeValue_396 h r69 M68 Q))) ∧
  (x2 = 1 → E h mdX11_k [.ref x0, .int (mAI M b2 (x1 : Int32).toNatClampNeg), .int 1] M (fun r M70 => mE M M70 → ∃ r71 : Int32, r = some (.int r71) ∧ DX11_codeValue_396 h r71 M70 Q))) ∧
  (x2 = 0 → E h mdX11_k [.ref x0, .int (mAI M b2 (x1 : Int32).toNatClampNeg), .int 0] M (fun r M72 => mE M M72 → ∃ r73 : Int32, r = some (.int r73) ∧ E h mdX11_k [.ref x0, .int (mAI M b2 (x1 : Int32).toNatClampNeg), .int 2] M72 (fun r M74 => mE M72 M74 → ∃ r75 : Int32, r = some (.int r75) ∧ E h mdX11_either [.int r73, .int r75] M74 (fun r M76 => mE M74 M76 → ∃ r77 : Int32, r = some (.int r77) ∧ DX11_codeValue_396 h r77 M76 Q))))) ∧
  (((mAI M b4 (x1 : Int32).toNatClampNeg : Int32).toInt < 2 ∨ 10 < (mAI M b4 (x1 : Int32).toNatClampNeg : Int32).toInt) → (¬ x2 = 0 → DX11_codeValue_411 h 0 M Q) ∧
  (x2 = 0 → ∃ b78 : Nat, mR M x0 77 = some b78 ∧ ok M b78 21 ∧ vp_in (x1 - (700 * (mI M x0 84))) (mL M b78) ∧ DX11_codeValue_411 h (mAI M b78 (x1 - (700 * (mI M x0 84)) : Int32).toNatClampNeg) M Q))
set_option maxRecDepth 20000 in
set_option maxHeartbeats 2000000 in
theorem VX11_codeValue_0 {h : Nat} {x0 : Nat} {x1 : Int32} {x2 : Int32} {M : Mem} {Q : Option Value → Mem → Prop} (H : DX11_codeValue_0 h x0 x1 x2 M Q) : T (h + 1) mdX11_codeValue 0 [(0, .ref x0), (1, .int x1), (2, .int x2)] [] M Q := by
  unfold DX11_codeValue_0 at H
  refine xt_iload_n (j := 1) dX11_codeValue_0 rfl rfl ?_
  refine xt_sipush (v := 700) dX11_codeValue_1 (by decide) ?_
  refine xt_aload_n (j := 0) dX11_codeValue_4 rfl rfl ?_
  obtain ⟨ho1, H⟩ := H
  refine xt_getI dX11_codeValue_5 (flX11_742 rfl) ft_13_84 ho1.1 ho1.2 ?_
  refine xt_imul dX11_codeValue_8 ?_
  refine xt_isub dX11_codeValue_9 ?_
  refine xt_istore_n (lv' := [(3, .int (x1 - (700 * (mI M x0 84)))), (0, .ref x0), (1, .int x1), (2, .int x2)]) dX11_codeValue_10 rfl (by decide) rfl ?_
  refine xt_aload_n (j := 1) dX11_codeValue_11 rfl rfl ?_
  obtain ⟨b2, hb, H⟩ := H
  refine xt_getR dX11_codeValue_12 (flX11_168 rfl) ft_13_64 ho1.1 ho1.2 hb ?_
  refine xt_iload_n (j := 2) dX11_codeValue_15 rfl rfl ?_
  obtain ⟨ho3, H⟩ := H
  obtain ⟨hi, H⟩ := H
  refine xt_iald dX11_codeValue_16 ho3.1 ho3.2 hi ?_
  refine xt_istore (lv' := [(4, .int (mAI M b2 (x1 : Int32).toNatClampNeg)), (3, .int (x1 - (700 * (mI M x0 84)))), (0, .ref x0), (1, .int x1), (2, .int x2)]) dX11_codeValue_17 (by decide) rfl ?_
  refine xt_aload_n (j := 2) dX11_codeValue_19 rfl rfl ?_
  obtain ⟨b4, hb, H⟩ := H
  refine xt_getR dX11_codeValue_20 (flX11_162 rfl) ft_13_62 ho1.1 ho1.2 hb ?_
  refine xt_iload_n (j := 3) dX11_codeValue_23 rfl rfl ?_
  obtain ⟨ho5, H⟩ := H
  obtain ⟨hi, H⟩ := H
  refine xt_iald dX11_codeValue_24 ho5.1 ho5.2 hi ?_
  by_cases hsw : (mAI M b4 (x1 : Int32).toNatClampNeg : Int32).toInt < 2 ∨ 10 < (mAI M b4 (x1 : Int32).toNatClampNeg : Int32).toInt
  · refine xt_tableOut (tgt := 397) dX11_codeValue_25 hsw (by decide) ?_
    have H := H.2.2.2.2.2.2.2.2.2 hsw
    refine xt_iload_n (j := 4) dX11_codeValue_397 rfl rfl ?_
    refine xt_if_ne (tgt := 410) dX11_codeValue_398 (by decide) (fun hc => ?_) (fun hc => ?_)
    · have H := H.1 hc
      refine xt_iconst (v := 0) dX11_codeValue_410 (by decide) ?_
      exact xt_sub [] rfl (VX11_codeValue_411 H)
    · have H := H.2 hc
      refine xt_aload_n (j := 2) dX11_codeValue_401 rfl rfl ?_
      obtain ⟨b78, hb, H⟩ := H
      refine xt_getR dX11_codeValue_402 (flX11_207 rfl) ft_13_77 ho1.1 ho1.2 hb ?_
      refine xt_iload_n (j := 1) dX11_codeValue_405 rfl rfl ?_
      obtain ⟨ho79, H⟩ := H
      obtain ⟨hi, H⟩ := H
      refine xt_iald dX11_codeValue_406 ho79.1 ho79.2 hi ?_
      refine xt_goto (tgt := 411) dX11_codeValue_407 (by decide) ?_
      exact xt_sub [] rfl (VX11_codeValue_411 H)
  · have hsw2 : (mAI M b4 (x1 : Int32).toNatClampNeg : Int32).toInt = 2 ∨ (mAI M b4 (x1 : Int32).toNatClampNeg : Int32).toInt = 3 ∨ (mAI M b4 (x1 : Int32).toNatClampNeg : Int32).toInt = 4 ∨ (mAI M b4 (x1 : Int32).toNatClampNeg : Int32).toInt = 5 ∨ (mAI M b4 (x1 : Int32).toNatClampNeg : Int32).toInt = 6 ∨ (mAI M b4 (x1 : Int32).toNatClampNeg : Int32).toInt = 7 ∨ (mAI M b4 (x1 : Int32).toNatClampNeg : Int32).toInt = 8 ∨ (mAI M b4 (x1 : Int32).toNatClampNeg : Int32).toInt = 9 ∨ (mAI M b4 (x1 : Int32).toNatClampNeg : Int32).toInt = 10 := by omega
    rcases hsw2 with hv | hv | hv | hv | hv | hv | hv | hv | hv
    · have hx : (mAI M b4 (x1 : Int32).toNatClampNeg) = 2 := i32_ofInt hv
      have H := H.1 hx
      refine xt_tableIn (tgt := 76) dX11_codeValue_25 (by omega) (by omega) (by rw [hv]; rfl) (by decide) ?_
      refine xt_iload_n (j := 4) dX11_codeValue_76 rfl rfl ?_
      refine xt_iconst (v := 1) dX11_codeValue_77 (by decide) ?_
      refine xt_icmp_ne (tgt := 90) dX11_codeValue_78 (by decide) (fun hc => ?_) (fun hc => ?_)
      · have H := H.1 hc
        refine xt_iload_n (j := 4) dX11_codeValue_90 rfl rfl ?_
        refine xt_if_ne (tgt := 117) dX11_codeValue_91 (by decide) (fun hc => ?_) (fun hc => ?_)
        · have H := H.1 hc
          exact xt_sub [] rfl (VX11_codeValue_117 H)
        · have H := H.2 hc
          refine xt_aload_n (j := 2) dX11_codeValue_94 rfl rfl ?_
          refine xt_getI dX11_codeValue_95 (flX11_764 rfl) ft_13_85 ho1.1 ho1.2 ?_
          refine xt_aload_n (j := 2) dX11_codeValue_98 rfl rfl ?_
          obtain ⟨b6, hb, H⟩ := H
          refine xt_getR dX11_codeValue_99 (flX11_183 rfl) ft_13_69 ho1.1 ho1.2 hb ?_
          refine xt_iload_n (j := 3) dX11_codeValue_102 rfl rfl ?_
          obtain ⟨ho7, H⟩ := H
          obtain ⟨hi, H⟩ := H
          refine xt_iald dX11_codeValue_103 ho7.1 ho7.2 hi ?_
          refine xt_iand dX11_codeValue_104 ?_
          refine xt_if_eq (tgt := 117) dX11_codeValue_105 (by decide) (fun hc => ?_) (fun hc => ?_)
          · have H := H.1 hc
            exact xt_sub [] rfl (VX11_codeValue_117 H)
          · have H := H.2 hc
            refine xt_aload_n (j := 2) dX11_codeValue_108 rfl rfl ?_
            obtain ⟨b8, hb, H⟩ := H
            refine xt_getR dX11_codeValue_109 (flX11_210 rfl) ft_13_78 ho1.1 ho1.2 hb ?_
            refine xt_iload_n (j := 1) dX11_codeValue_112 rfl rfl ?_
            obtain ⟨ho9, H⟩ := H
            obtain ⟨hi, H⟩ := H
            refine xt_iald dX11_codeValue_113 ho9.1 ho9.2 hi ?_
            refine xt_goto (tgt := 118) dX11_codeValue_114 (by decide) ?_
            exact xt_sub [] rfl (VX11_codeValue_118 H)
      · have H := H.2 hc
        refine xt_aload_n (j := 2) dX11_codeValue_81 rfl rfl ?_
        obtain ⟨b10, hb, H⟩ := H
        refine xt_getR dX11_codeValue_82 (flX11_207 rfl) ft_13_77 ho1.1 ho1.2 hb ?_
        refine xt_iload_n (j := 1) dX11_codeValue_85 rfl rfl ?_
        obtain ⟨ho11, H⟩ := H
        obtain ⟨hi, H⟩ := H
        refine xt_iald dX11_codeValue_86 ho11.1 ho11.2 hi ?_
        refine xt_goto (tgt := 118) dX11_codeValue_87 (by decide) ?_
        exact xt_sub [] rfl (VX11_codeValue_118 H)
    · have hx : (mAI M b4 (x1 : Int32).toNatClampNeg) = 3 := i32_ofInt hv
      have H := H.2.1 hx
      refine xt_tableIn (tgt := 119) dX11_codeValue_25 (by omega) (by omega) (by rw [hv]; rfl) (by decide) ?_
      refine xt_iload_n (j := 4) dX11_codeValue_119 rfl rfl ?_
      refine xt_aload_n (j := 2) dX11_codeValue_120 rfl rfl ?_
      obtain ⟨b12, hb, H⟩ := H
      refine xt_getR dX11_codeValue_121 (flX11_186 rfl) ft_13_70 ho1.1 ho1.2 hb ?_
      refine xt_iload_n (j := 3) dX11_codeValue_124 rfl rfl ?_
      obtain ⟨ho13, H⟩ := H
      obtain ⟨hi, H⟩ := H
      refine xt_iald dX11_codeValue_125 ho13.1 ho13.2 hi ?_
      refine xt_icmp_ne (tgt := 138) dX11_codeValue_126 (by decide) (fun hc => ?_) (fun hc => ?_)
      · have H := H.1 hc
        refine xt_iconst (v := 0) dX11_codeValue_138 (by decide) ?_
        exact xt_sub [] rfl (VX11_codeValue_139 H)
      · have H := H.2 hc
        refine xt_aload_n (j := 2) dX11_codeValue_129 rfl rfl ?_
        obtain ⟨b14, hb, H⟩ := H
        refine xt_getR dX11_codeValue_130 (flX11_207 rfl) ft_13_77 ho1.1 ho1.2 hb ?_
        refine xt_iload_n (j := 1) dX11_codeValue_133 rfl rfl ?_
        obtain ⟨ho15, H⟩ := H
        obtain ⟨hi, H⟩ := H
        refine xt_iald dX11_codeValue_134 ho15.1 ho15.2 hi ?_
        refine xt_goto (tgt := 139) dX11_codeValue_135 (by decide) ?_
        exact xt_sub [] rfl (VX11_codeValue_139 H)
    · have hx : (mAI M b4 (x1 : Int32).toNatClampNeg) = 4 := i32_ofInt hv
      have H := H.2.2.1 hx
      refine xt_tableIn (tgt := 140) dX11_codeValue_25 (by omega) (by omega) (by rw [hv]; rfl) (by decide) ?_
      refine xt_aload_n (j := 2) dX11_codeValue_140 rfl rfl ?_
      refine xt_iload_n (j := 3) dX11_codeValue_141 rfl rfl ?_
      refine xt_iload_n (j := 4) dX11_codeValue_142 rfl rfl ?_
      refine xt_callV (h2 := h) (as := [.int x1, .int x2]) (st := []) dX11_codeValue_143 (mlX11_771 rfl) rfl ho1.1 ⟨by rw [ho1.2]; rfl, by rw [ho1.2]; decide⟩ (by first | decide | (simp [Value.category]; done)) (Nat.le_refl _) H (fun r M16 HH hE => ?_)
      obtain ⟨r17, hr, H⟩ := HH hE
      subst hr
      have ho1 := ok_E ho1 hE
      show T _ _ _ _ [.int r17] _ _
      refine xt_istore (lv' := [(5, .int r17), (4, .int (mAI M b2 (x1 : Int32).toNatClampNeg)), (3, .int (x1 - (700 * (mI M x0 84)))), (0, .ref x0), (1, .int x1), (2, .int x2)]) dX11_codeValue_146 (by decide) rfl ?_
      refine xt_iload_n (j := 5) dX11_codeValue_148 rfl rfl ?_
      refine xt_if_ne (tgt := 215) dX11_codeValue_149 (by decide) (fun hc => ?_) (fun hc => ?_)
      · have H := H.1 hc
        exact xt_sub [0] rfl (VX11_codeValue_215 H)
      · have H := H.2 hc
        refine xt_aload_n (j := 3) dX11_codeValue_152 rfl rfl ?_
        obtain ⟨b18, hb, H⟩ := H
        refine xt_getR dX11_codeValue_153 (flX11_174 rfl) ft_13_66 ho1.1 ho1.2 hb ?_
        refine xt_iload (j := 1) dX11_codeValue_156 rfl ?_
        obtain ⟨ho19, H⟩ := H
        obtain ⟨hi, H⟩ := H
        refine xt_iald dX11_codeValue_158 ho19.1 ho19.2 hi ?_
        refine xt_iconst (v := -1) dX11_codeValue_159 (by decide) ?_
        refine xt_icmp_ne (tgt := 215) dX11_codeValue_160 (by decide) (fun hc => ?_) (fun hc => ?_)
        · have H := H.1 hc
          exact xt_sub [0] rfl (VX11_codeValue_215 H)
        · have H := H.2 hc
          refine xt_iload (j := 0) dX11_codeValue_163 rfl ?_
          refine xt_aload_n (j := 3) dX11_codeValue_165 rfl rfl ?_
          obtain ⟨b20, hb, H⟩ := H
          refine xt_getR dX11_codeValue_166 (flX11_207 rfl) ft_13_77 ho1.1 ho1.2 hb ?_
          refine xt_iload_n (j := 2) dX11_codeValue_169 rfl rfl ?_
          obtain ⟨ho21, H⟩ := H
          obtain ⟨hi, H⟩ := H
          refine xt_iald dX11_codeValue_170 ho21.1 ho21.2 hi ?_
          refine xt_aload_n (j := 3) dX11_codeValue_171 rfl rfl ?_
          obtain ⟨b22, hb, H⟩ := H
          refine xt_getR dX11_codeValue_172 (flX11_162 rfl) ft_13_62 ho1.1 ho1.2 hb ?_
          refine xt_iload_n (j := 4) dX11_codeValue_175 rfl rfl ?_
          obtain ⟨ho23, H⟩ := H
          obtain ⟨hi, H⟩ := H
          refine xt_iald dX11_codeValue_176 ho23.1 ho23.2 hi ?_
          refine xt_iconst (v := 5) dX11_codeValue_177 (by decide) ?_
          refine xt_icmp_ne (tgt := 194) dX11_codeValue_178 (by decide) (fun hc => ?_) (fun hc => ?_)
          · have H := H.1 hc
            refine xt_aload_n (j := 3) dX11_codeValue_194 rfl rfl ?_
            refine xt_aload_n (j := 3) dX11_codeValue_195 rfl rfl ?_
            obtain ⟨b24, hb, H⟩ := H
            refine xt_getR dX11_codeValue_196 (flX11_165 rfl) ft_13_63 ho1.1 ho1.2 hb ?_
            refine xt_iload_n (j := 4) dX11_codeValue_199 rfl rfl ?_
            obtain ⟨ho25, H⟩ := H
            obtain ⟨hi, H⟩ := H
            refine xt_iald dX11_codeValue_200 ho25.1 ho25.2 hi ?_
            refine xt_callV (h2 := h) (as := [.int (mAI M16 b24 (x1 : Int32).toNatClampNeg)]) (st := [.int (mAI M16 b20 (x1 - (700 * (mI M x0 84)) : Int32).toNatClampNeg), .int r17]) dX11_codeValue_201 (mlX11_758 rfl) rfl ho1.1 ⟨by rw [ho1.2]; rfl, by rw [ho1.2]; decide⟩ (by first | decide | (simp [Value.category]; done)) (Nat.le_refl _) H (fun r M26 HH hE => ?_)
            obtain ⟨r27, hr, H⟩ := HH hE
            subst hr
            have ho1 := ok_E ho1 hE
            show T _ _ _ _ [.int r27, .int (mAI M16 b20 (x1 - (700 * (mI M x0 84)) : Int32).toNatClampNeg), .int r17] _ _
            exact xt_sub [] rfl (VX11_codeValue_204 H)
          · have H := H.2 hc
            refine xt_aload_n (j := 3) dX11_codeValue_181 rfl rfl ?_
            refine xt_aload_n (j := 3) dX11_codeValue_182 rfl rfl ?_
            obtain ⟨b28, hb, H⟩ := H
            refine xt_getR dX11_codeValue_183 (flX11_165 rfl) ft_13_63 ho1.1 ho1.2 hb ?_
            refine xt_iload_n (j := 4) dX11_codeValue_186 rfl rfl ?_
            obtain ⟨ho29, H⟩ := H
            obtain ⟨hi, H⟩ := H
            refine xt_iald dX11_codeValue_187 ho29.1 ho29.2 hi ?_
            refine xt_callV (h2 := h) (as := [.int (mAI M16 b28 (x1 : Int32).toNatClampNeg)]) (st := [.int (mAI M16 b20 (x1 - (700 * (mI M x0 84)) : Int32).toNatClampNeg), .int r17]) dX11_codeValue_188 (mlX11_755 rfl) rfl ho1.1 ⟨by rw [ho1.2]; rfl, by rw [ho1.2]; decide⟩ (by first | decide | (simp [Value.category]; done)) (Nat.le_refl _) H (fun r M30 HH hE => ?_)
            obtain ⟨r31, hr, H⟩ := HH hE
            subst hr
            have ho1 := ok_E ho1 hE
            show T _ _ _ _ [.int r31, .int (mAI M16 b20 (x1 - (700 * (mI M x0 84)) : Int32).toNatClampNeg), .int r17] _ _
            refine xt_goto (tgt := 204) dX11_codeValue_191 (by decide) ?_
            exact xt_sub [] rfl (VX11_codeValue_204 H)
    · have hx : (mAI M b4 (x1 : Int32).toNatClampNeg) = 5 := i32_ofInt hv
      have H := H.2.2.2.1 hx
      refine xt_tableIn (tgt := 140) dX11_codeValue_25 (by omega) (by omega) (by rw [hv]; rfl) (by decide) ?_
      refine xt_aload_n (j := 2) dX11_codeValue_140 rfl rfl ?_
      refine xt_iload_n (j := 3) dX11_codeValue_141 rfl rfl ?_
      refine xt_iload_n (j := 4) dX11_codeValue_142 rfl rfl ?_
      refine xt_callV (h2 := h) (as := [.int x1, .int x2]) (st := []) dX11_codeValue_143 (mlX11_771 rfl) rfl ho1.1 ⟨by rw [ho1.2]; rfl, by rw [ho1.2]; decide⟩ (by first | decide | (simp [Value.category]; done)) (Nat.le_refl _) H (fun r M32 HH hE => ?_)
      obtain ⟨r33, hr, H⟩ := HH hE
      subst hr
      have ho1 := ok_E ho1 hE
      show T _ _ _ _ [.int r33] _ _
      refine xt_istore (lv' := [(5, .int r33), (4, .int (mAI M b2 (x1 : Int32).toNatClampNeg)), (3, .int (x1 - (700 * (mI M x0 84)))), (0, .ref x0), (1, .int x1), (2, .int x2)]) dX11_codeValue_146 (by decide) rfl ?_
      refine xt_iload_n (j := 5) dX11_codeValue_148 rfl rfl ?_
      refine xt_if_ne (tgt := 215) dX11_codeValue_149 (by decide) (fun hc => ?_) (fun hc => ?_)
      · have H := H.1 hc
        exact xt_sub [0] rfl (VX11_codeValue_215 H)
      · have H := H.2 hc
        refine xt_aload_n (j := 3) dX11_codeValue_152 rfl rfl ?_
        obtain ⟨b34, hb, H⟩ := H
        refine xt_getR dX11_codeValue_153 (flX11_174 rfl) ft_13_66 ho1.1 ho1.2 hb ?_
        refine xt_iload (j := 1) dX11_codeValue_156 rfl ?_
        obtain ⟨ho35, H⟩ := H
        obtain ⟨hi, H⟩ := H
        refine xt_iald dX11_codeValue_158 ho35.1 ho35.2 hi ?_
        refine xt_iconst (v := -1) dX11_codeValue_159 (by decide) ?_
        refine xt_icmp_ne (tgt := 215) dX11_codeValue_160 (by decide) (fun hc => ?_) (fun hc => ?_)
        · have H := H.1 hc
          exact xt_sub [0] rfl (VX11_codeValue_215 H)
        · have H := H.2 hc
          refine xt_iload (j := 0) dX11_codeValue_163 rfl ?_
          refine xt_aload_n (j := 3) dX11_codeValue_165 rfl rfl ?_
          obtain ⟨b36, hb, H⟩ := H
          refine xt_getR dX11_codeValue_166 (flX11_207 rfl) ft_13_77 ho1.1 ho1.2 hb ?_
          refine xt_iload_n (j := 2) dX11_codeValue_169 rfl rfl ?_
          obtain ⟨ho37, H⟩ := H
          obtain ⟨hi, H⟩ := H
          refine xt_iald dX11_codeValue_170 ho37.1 ho37.2 hi ?_
          refine xt_aload_n (j := 3) dX11_codeValue_171 rfl rfl ?_
          obtain ⟨b38, hb, H⟩ := H
          refine xt_getR dX11_codeValue_172 (flX11_162 rfl) ft_13_62 ho1.1 ho1.2 hb ?_
          refine xt_iload_n (j := 4) dX11_codeValue_175 rfl rfl ?_
          obtain ⟨ho39, H⟩ := H
          obtain ⟨hi, H⟩ := H
          refine xt_iald dX11_codeValue_176 ho39.1 ho39.2 hi ?_
          refine xt_iconst (v := 5) dX11_codeValue_177 (by decide) ?_
          refine xt_icmp_ne (tgt := 194) dX11_codeValue_178 (by decide) (fun hc => ?_) (fun hc => ?_)
          · have H := H.1 hc
            refine xt_aload_n (j := 3) dX11_codeValue_194 rfl rfl ?_
            refine xt_aload_n (j := 3) dX11_codeValue_195 rfl rfl ?_
            obtain ⟨b40, hb, H⟩ := H
            refine xt_getR dX11_codeValue_196 (flX11_165 rfl) ft_13_63 ho1.1 ho1.2 hb ?_
            refine xt_iload_n (j := 4) dX11_codeValue_199 rfl rfl ?_
            obtain ⟨ho41, H⟩ := H
            obtain ⟨hi, H⟩ := H
            refine xt_iald dX11_codeValue_200 ho41.1 ho41.2 hi ?_
            refine xt_callV (h2 := h) (as := [.int (mAI M32 b40 (x1 : Int32).toNatClampNeg)]) (st := [.int (mAI M32 b36 (x1 - (700 * (mI M x0 84)) : Int32).toNatClampNeg), .int r33]) dX11_codeValue_201 (mlX11_758 rfl) rfl ho1.1 ⟨by rw [ho1.2]; rfl, by rw [ho1.2]; decide⟩ (by first | decide | (simp [Value.category]; done)) (Nat.le_refl _) H (fun r M42 HH hE => ?_)
            obtain ⟨r43, hr, H⟩ := HH hE
            subst hr
            have ho1 := ok_E ho1 hE
            show T _ _ _ _ [.int r43, .int (mAI M32 b36 (x1 - (700 * (mI M x0 84)) : Int32).toNatClampNeg), .int r33] _ _
            exact xt_sub [] rfl (VX11_codeValue_204 H)
          · have H := H.2 hc
            refine xt_aload_n (j := 3) dX11_codeValue_181 rfl rfl ?_
            refine xt_aload_n (j := 3) dX11_codeValue_182 rfl rfl ?_
            obtain ⟨b44, hb, H⟩ := H
            refine xt_getR dX11_codeValue_183 (flX11_165 rfl) ft_13_63 ho1.1 ho1.2 hb ?_
            refine xt_iload_n (j := 4) dX11_codeValue_186 rfl rfl ?_
            obtain ⟨ho45, H⟩ := H
            obtain ⟨hi, H⟩ := H
            refine xt_iald dX11_codeValue_187 ho45.1 ho45.2 hi ?_
            refine xt_callV (h2 := h) (as := [.int (mAI M32 b44 (x1 : Int32).toNatClampNeg)]) (st := [.int (mAI M32 b36 (x1 - (700 * (mI M x0 84)) : Int32).toNatClampNeg), .int r33]) dX11_codeValue_188 (mlX11_755 rfl) rfl ho1.1 ⟨by rw [ho1.2]; rfl, by rw [ho1.2]; decide⟩ (by first | decide | (simp [Value.category]; done)) (Nat.le_refl _) H (fun r M46 HH hE => ?_)
            obtain ⟨r47, hr, H⟩ := HH hE
            subst hr
            have ho1 := ok_E ho1 hE
            show T _ _ _ _ [.int r47, .int (mAI M32 b36 (x1 - (700 * (mI M x0 84)) : Int32).toNatClampNeg), .int r33] _ _
            refine xt_goto (tgt := 204) dX11_codeValue_191 (by decide) ?_
            exact xt_sub [] rfl (VX11_codeValue_204 H)
    · have hx : (mAI M b4 (x1 : Int32).toNatClampNeg) = 6 := i32_ofInt hv
      have H := H.2.2.2.2.1 hx
      refine xt_tableIn (tgt := 218) dX11_codeValue_25 (by omega) (by omega) (by rw [hv]; rfl) (by decide) ?_
      refine xt_iload_n (j := 4) dX11_codeValue_218 rfl rfl ?_
      refine xt_if_ne (tgt := 236) dX11_codeValue_219 (by decide) (fun hc => ?_) (fun hc => ?_)
      · have H := H.1 hc
        refine xt_aload_n (j := 2) dX11_codeValue_236 rfl rfl ?_
        refine xt_iload_n (j := 3) dX11_codeValue_237 rfl rfl ?_
        refine xt_iload_n (j := 4) dX11_codeValue_238 rfl rfl ?_
        refine xt_callV (h2 := h) (as := [.int x1, .int x2]) (st := []) dX11_codeValue_239 (mlX11_771 rfl) rfl ho1.1 ⟨by rw [ho1.2]; rfl, by rw [ho1.2]; decide⟩ (by first | decide | (simp [Value.category]; done)) (Nat.le_refl _) H (fun r M48 HH hE => ?_)
        obtain ⟨r49, hr, H⟩ := HH hE
        subst hr
        have ho1 := ok_E ho1 hE
        show T _ _ _ _ [.int r49] _ _
        exact xt_sub [] rfl (VX11_codeValue_242 H)
      · have H := H.2 hc
        refine xt_aload_n (j := 2) dX11_codeValue_222 rfl rfl ?_
        refine xt_aload_n (j := 2) dX11_codeValue_223 rfl rfl ?_
        obtain ⟨b50, hb, H⟩ := H
        refine xt_getR dX11_codeValue_224 (flX11_171 rfl) ft_13_65 ho1.1 ho1.2 hb ?_
        refine xt_iload_n (j := 3) dX11_codeValue_227 rfl rfl ?_
        obtain ⟨ho51, H⟩ := H
        obtain ⟨hi, H⟩ := H
        refine xt_iald dX11_codeValue_228 ho51.1 ho51.2 hi ?_
        refine xt_iconst (v := 0) dX11_codeValue_229 (by decide) ?_
        refine xt_callV (h2 := h) (as := [.int (mAI M b50 (x1 : Int32).toNatClampNeg), .int 0]) (st := []) dX11_codeValue_230 (mlX11_761 rfl) rfl ho1.1 ⟨by rw [ho1.2]; rfl, by rw [ho1.2]; decide⟩ (by first | decide | (simp [Value.category]; done)) (Nat.le_refl _) H (fun r M52 HH hE => ?_)
        obtain ⟨r53, hr, H⟩ := HH hE
        subst hr
        have ho1 := ok_E ho1 hE
        show T _ _ _ _ [.int r53] _ _
        refine xt_goto (tgt := 242) dX11_codeValue_233 (by decide) ?_
        exact xt_sub [] rfl (VX11_codeValue_242 H)
    · have hx : (mAI M b4 (x1 : Int32).toNatClampNeg) = 7 := i32_ofInt hv
      have H := H.2.2.2.2.2.1 hx
      refine xt_tableIn (tgt := 243) dX11_codeValue_25 (by omega) (by omega) (by rw [hv]; rfl) (by decide) ?_
      refine xt_iload_n (j := 4) dX11_codeValue_243 rfl rfl ?_
      refine xt_if_ne (tgt := 251) dX11_codeValue_244 (by decide) (fun hc => ?_) (fun hc => ?_)
      · have H := H.1 hc
        refine xt_aload_n (j := 2) dX11_codeValue_251 rfl rfl ?_
        refine xt_iload (j := 0) dX11_codeValue_252 rfl ?_
        refine xt_iload_n (j := 4) dX11_codeValue_254 rfl rfl ?_
        refine xt_callV (h2 := h) (as := [.int (mAI M b2 (x1 : Int32).toNatClampNeg), .int x2]) (st := []) dX11_codeValue_255 (mlX11_761 rfl) rfl ho1.1 ⟨by rw [ho1.2]; rfl, by rw [ho1.2]; decide⟩ (by first | decide | (simp [Value.category]; done)) (Nat.le_refl _) H (fun r M54 HH hE => ?_)
        obtain ⟨r55, hr, H⟩ := HH hE
        subst hr
        have ho1 := ok_E ho1 hE
        show T _ _ _ _ [.int r55] _ _
        exact xt_sub [] rfl (VX11_codeValue_258 H)
      · have H := H.2 hc
        refine xt_iconst (v := 0) dX11_codeValue_247 (by decide) ?_
        refine xt_goto (tgt := 258) dX11_codeValue_248 (by decide) ?_
        exact xt_sub [] rfl (VX11_codeValue_258 H)
    · have hx : (mAI M b4 (x1 : Int32).toNatClampNeg) = 8 := i32_ofInt hv
      have H := H.2.2.2.2.2.2.1 hx
      refine xt_tableIn (tgt := 259) dX11_codeValue_25 (by omega) (by omega) (by rw [hv]; rfl) (by decide) ?_
      refine xt_iload_n (j := 4) dX11_codeValue_259 rfl rfl ?_
      refine xt_iconst (v := 1) dX11_codeValue_260 (by decide) ?_
      refine xt_icmp_eq (tgt := 274) dX11_codeValue_261 (by decide) (fun hc => ?_) (fun hc => ?_)
      · have H := H.1 hc
        refine xt_aload_n (j := 2) dX11_codeValue_274 rfl rfl ?_
        refine xt_iload (j := 0) dX11_codeValue_275 rfl ?_
        refine xt_iconst (v := 1) dX11_codeValue_277 (by decide) ?_
        refine xt_callV (h2 := h) (as := [.int (mAI M b2 (x1 : Int32).toNatClampNeg), .int 1]) (st := []) dX11_codeValue_278 (mlX11_761 rfl) rfl ho1.1 ⟨by rw [ho1.2]; rfl, by rw [ho1.2]; decide⟩ (by first | decide | (simp [Value.category]; done)) (Nat.le_refl _) H (fun r M56 HH hE => ?_)
        obtain ⟨r57, hr, H⟩ := HH hE
        subst hr
        have ho1 := ok_E ho1 hE
        show T _ _ _ _ [.int r57] _ _
        refine xt_aload_n (j := 2) dX11_codeValue_281 rfl rfl ?_
        refine xt_getI dX11_codeValue_282 (flX11_764 rfl) ft_13_85 ho1.1 ho1.2 ?_
        refine xt_aload_n (j := 2) dX11_codeValue_285 rfl rfl ?_
        obtain ⟨b58, hb, H⟩ := H
        refine xt_getR dX11_codeValue_286 (flX11_183 rfl) ft_13_69 ho1.1 ho1.2 hb ?_
        refine xt_iload_n (j := 3) dX11_codeValue_289 rfl rfl ?_
        obtain ⟨ho59, H⟩ := H
        obtain ⟨hi, H⟩ := H
        refine xt_iald dX11_codeValue_290 ho59.1 ho59.2 hi ?_
        refine xt_iand dX11_codeValue_291 ?_
        refine xt_if_eq (tgt := 304) dX11_codeValue_292 (by decide) (fun hc => ?_) (fun hc => ?_)
        · have H := H.1 hc
          refine xt_iconst (v := 0) dX11_codeValue_304 (by decide) ?_
          exact xt_sub [2, 3] rfl (VX11_codeValue_305 H)
        · have H := H.2 hc
          refine xt_aload_n (j := 2) dX11_codeValue_295 rfl rfl ?_
          obtain ⟨b60, hb, H⟩ := H
          refine xt_getR dX11_codeValue_296 (flX11_210 rfl) ft_13_78 ho1.1 ho1.2 hb ?_
          refine xt_iload_n (j := 1) dX11_codeValue_299 rfl rfl ?_
          obtain ⟨ho61, H⟩ := H
          obtain ⟨hi, H⟩ := H
          refine xt_iald dX11_codeValue_300 ho61.1 ho61.2 hi ?_
          refine xt_goto (tgt := 305) dX11_codeValue_301 (by decide) ?_
          exact xt_sub [2, 3] rfl (VX11_codeValue_305 H)
      · have H := H.2 hc
        refine xt_aload_n (j := 2) dX11_codeValue_264 rfl rfl ?_
        refine xt_iload (j := 0) dX11_codeValue_265 rfl ?_
        refine xt_iload_n (j := 4) dX11_codeValue_267 rfl rfl ?_
        refine xt_callV (h2 := h) (as := [.int (mAI M b2 (x1 : Int32).toNatClampNeg), .int x2]) (st := []) dX11_codeValue_268 (mlX11_761 rfl) rfl ho1.1 ⟨by rw [ho1.2]; rfl, by rw [ho1.2]; decide⟩ (by first | decide | (simp [Value.category]; done)) (Nat.le_refl _) H (fun r M62 HH hE => ?_)
        obtain ⟨r63, hr, H⟩ := HH hE
        subst hr
        have ho1 := ok_E ho1 hE
        show T _ _ _ _ [.int r63] _ _
        refine xt_goto (tgt := 321) dX11_codeValue_271 (by decide) ?_
        exact xt_sub [] rfl (VX11_codeValue_321 H)
    · have hx : (mAI M b4 (x1 : Int32).toNatClampNeg) = 9 := i32_ofInt hv
      have H := H.2.2.2.2.2.2.2.1 hx
      refine xt_tableIn (tgt := 322) dX11_codeValue_25 (by omega) (by omega) (by rw [hv]; rfl) (by decide) ?_
      refine xt_aload_n (j := 2) dX11_codeValue_322 rfl rfl ?_
      refine xt_iload_n (j := 3) dX11_codeValue_323 rfl rfl ?_
      refine xt_iload_n (j := 4) dX11_codeValue_324 rfl rfl ?_
      refine xt_callV (h2 := h) (as := [.int x1, .int x2]) (st := []) dX11_codeValue_325 (mlX11_774 rfl) rfl ho1.1 ⟨by rw [ho1.2]; rfl, by rw [ho1.2]; decide⟩ (by first | decide | (simp [Value.category]; done)) (Nat.le_refl _) H (fun r M64 HH hE => ?_)
      obtain ⟨r65, hr, H⟩ := HH hE
      subst hr
      have ho1 := ok_E ho1 hE
      show T _ _ _ _ [.int r65] _ _
      exact xt_ireturn dX11_codeValue_328 rfl H
    · have hx : (mAI M b4 (x1 : Int32).toNatClampNeg) = 10 := i32_ofInt hv
      have H := H.2.2.2.2.2.2.2.2.1 hx
      refine xt_tableIn (tgt := 329) dX11_codeValue_25 (by omega) (by omega) (by rw [hv]; rfl) (by decide) ?_
      refine xt_iload_n (j := 4) dX11_codeValue_329 rfl rfl ?_
      refine xt_if_ne (tgt := 353) dX11_codeValue_330 (by decide) (fun hc => ?_) (fun hc => ?_)
      · have H := H.1 hc
        refine xt_iload_n (j := 4) dX11_codeValue_353 rfl rfl ?_
        refine xt_iconst (v := 1) dX11_codeValue_354 (by decide) ?_
        refine xt_icmp_ne (tgt := 368) dX11_codeValue_355 (by decide) (fun hc => ?_) (fun hc => ?_)
        · have H := H.1 hc
          refine xt_iload_n (j := 4) dX11_codeValue_368 rfl rfl ?_
          refine xt_iconst (v := 1) dX11_codeValue_369 (by decide) ?_
          refine xt_iadd dX11_codeValue_370 ?_
          refine xt_aload_n (j := 2) dX11_codeValue_371 rfl rfl ?_
          obtain ⟨b66, hb, H⟩ := H
          refine xt_getR dX11_codeValue_372 (flX11_198 rfl) ft_13_74 ho1.1 ho1.2 hb ?_
          refine xt_aload_n (j := 2) dX11_codeValue_375 rfl rfl ?_
          refine xt_getI dX11_codeValue_376 (flX11_742 rfl) ft_13_84 ho1.1 ho1.2 ?_
          obtain ⟨ho67, H⟩ := H
          obtain ⟨hi, H⟩ := H
          refine xt_iald dX11_codeValue_379 ho67.1 ho67.2 hi ?_
          refine xt_icmp_ge (tgt := 395) dX11_codeValue_380 (by decide) (fun hc => ?_) (fun hc => ?_)
          · have H := H.1 hc
            refine xt_iconst (v := 0) dX11_codeValue_395 (by decide) ?_
            exact xt_sub [] rfl (VX11_codeValue_396 H)
          · have H := H.2 hc
            refine xt_aload_n (j := 2) dX11_codeValue_383 rfl rfl ?_
            refine xt_iload (j := 0) dX11_codeValue_384 rfl ?_
            refine xt_iload_n (j := 4) dX11_codeValue_386 rfl rfl ?_
            refine xt_iconst (v := 1) dX11_codeValue_387 (by decide) ?_
            refine xt_iadd dX11_codeValue_388 ?_
            refine xt_callV (h2 := h) (as := [.int (mAI M b2 (x1 : Int32).toNatClampNeg), .int (x2 + 1)]) (st := []) dX11_codeValue_389 (mlX11_761 rfl) rfl ho1.1 ⟨by rw [ho1.2]; rfl, by rw [ho1.2]; decide⟩ (by first | decide | (simp [Value.category]; done)) (Nat.le_refl _) H (fun r M68 HH hE => ?_)
            obtain ⟨r69, hr, H⟩ := HH hE
            subst hr
            have ho1 := ok_E ho1 hE
            show T _ _ _ _ [.int r69] _ _
            refine xt_goto (tgt := 396) dX11_codeValue_392 (by decide) ?_
            exact xt_sub [] rfl (VX11_codeValue_396 H)
        · have H := H.2 hc
          refine xt_aload_n (j := 2) dX11_codeValue_358 rfl rfl ?_
          refine xt_iload (j := 0) dX11_codeValue_359 rfl ?_
          refine xt_iconst (v := 1) dX11_codeValue_361 (by decide) ?_
          refine xt_callV (h2 := h) (as := [.int (mAI M b2 (x1 : Int32).toNatClampNeg), .int 1]) (st := []) dX11_codeValue_362 (mlX11_761 rfl) rfl ho1.1 ⟨by rw [ho1.2]; rfl, by rw [ho1.2]; decide⟩ (by first | decide | (simp [Value.category]; done)) (Nat.le_refl _) H (fun r M70 HH hE => ?_)
          obtain ⟨r71, hr, H⟩ := HH hE
          subst hr
          have ho1 := ok_E ho1 hE
          show T _ _ _ _ [.int r71] _ _
          refine xt_goto (tgt := 396) dX11_codeValue_365 (by decide) ?_
          exact xt_sub [] rfl (VX11_codeValue_396 H)
      · have H := H.2 hc
        refine xt_aload_n (j := 2) dX11_codeValue_333 rfl rfl ?_
        refine xt_iload (j := 0) dX11_codeValue_334 rfl ?_
        refine xt_iconst (v := 0) dX11_codeValue_336 (by decide) ?_
        refine xt_callV (h2 := h) (as := [.int (mAI M b2 (x1 : Int32).toNatClampNeg), .int 0]) (st := []) dX11_codeValue_337 (mlX11_761 rfl) rfl ho1.1 ⟨by rw [ho1.2]; rfl, by rw [ho1.2]; decide⟩ (by first | decide | (simp [Value.category]; done)) (Nat.le_refl _) H (fun r M72 HH hE => ?_)
        obtain ⟨r73, hr, H⟩ := HH hE
        subst hr
        have ho1 := ok_E ho1 hE
        show T _ _ _ _ [.int r73] _ _
        refine xt_aload_n (j := 2) dX11_codeValue_340 rfl rfl ?_
        refine xt_iload (j := 0) dX11_codeValue_341 rfl ?_
        refine xt_iconst (v := 2) dX11_codeValue_343 (by decide) ?_
        refine xt_callV (h2 := h) (as := [.int (mAI M b2 (x1 : Int32).toNatClampNeg), .int 2]) (st := [.int r73]) dX11_codeValue_344 (mlX11_761 rfl) rfl ho1.1 ⟨by rw [ho1.2]; rfl, by rw [ho1.2]; decide⟩ (by first | decide | (simp [Value.category]; done)) (Nat.le_refl _) H (fun r M74 HH hE => ?_)
        obtain ⟨r75, hr, H⟩ := HH hE
        subst hr
        have ho1 := ok_E ho1 hE
        show T _ _ _ _ [.int r75, .int r73] _ _
        refine xt_callS (h2 := h) (as := [.int r73, .int r75]) (st := []) dX11_codeValue_347 (mlX11_739 rfl) rfl (by first | decide | (simp [Value.category]; done)) (Nat.le_refl _) H (fun r M76 HH hE => ?_)
        obtain ⟨r77, hr, H⟩ := HH hE
        subst hr
        have ho1 := ok_E ho1 hE
        show T _ _ _ _ [.int r77] _ _
        refine xt_goto (tgt := 396) dX11_codeValue_350 (by decide) ?_
        exact xt_sub [] rfl (VX11_codeValue_396 H)
theorem KX11_codeValue {h : Nat} {x0 : Nat} {x1 : Int32} {x2 : Int32} {M : Mem} {Q : Option Value → Mem → Prop} (H : DX11_codeValue_0 h x0 x1 x2 M Q) : E (h + 1) mdX11_codeValue [.ref x0, .int x1, .int x2] M Q := E.of (by decide) (Nat.le_of_ble_eq_true rfl) (fun _ _ _ => trivial) (VX11_codeValue_0 H)
def DX11_signalsNow_126 (h : Nat) (x0 : Nat) (x1 : Int32) (M : Mem) (Q : Option Value → Mem → Prop) : Prop :=
  T (h + 1) mdX11_signalsNow 2 [(0, .ref x0), (1, .int (x1 + 1))] [] M Q
set_option maxRecDepth 20000 in
set_option maxHeartbeats 2000000 in
theorem VX11_signalsNow_126 {h : Nat} {x0 : Nat} {x1 : Int32} {M : Mem} {Q : Option Value → Mem → Prop} (H : DX11_signalsNow_126 h x0 x1 M Q) : T (h + 1) mdX11_signalsNow 126 [(0, .ref x0), (1, .int x1)] [] M Q := by
  unfold DX11_signalsNow_126 at H
  refine xt_iinc (j := 1) (v := x1 + 1) (lv' := [(1, .int (x1 + 1)), (0, .ref x0)]) dX11_signalsNow_126 rfl (by rfl) (by decide) rfl ?_
  refine xt_goto (tgt := 2) dX11_signalsNow_129 (by decide) ?_
  exact xt_sub (lv' := [(0, .ref x0), (1, .int (x1 + 1))]) [1, 0] rfl H
def DX11_signalsNow_110 (h : Nat) (x0 : Nat) (x1 : Int32) (x2 : Int32) (x3 : Int32) (M : Mem) (Q : Option Value → Mem → Prop) : Prop :=
  T (h + 1) mdX11_signalsNow 43 [(0, .ref x0), (1, .int x1), (2, .int x2), (3, .int (x3 + 1))] [] M Q
set_option maxRecDepth 20000 in
set_option maxHeartbeats 2000000 in
theorem VX11_signalsNow_110 {h : Nat} {x0 : Nat} {x1 : Int32} {x2 : Int32} {x3 : Int32} {M : Mem} {Q : Option Value → Mem → Prop} (H : DX11_signalsNow_110 h x0 x1 x2 x3 M Q) : T (h + 1) mdX11_signalsNow 110 [(0, .ref x0), (1, .int x1), (2, .int x2), (3, .int x3)] [] M Q := by
  unfold DX11_signalsNow_110 at H
  refine xt_iinc (j := 3) (v := x3 + 1) (lv' := [(3, .int (x3 + 1)), (0, .ref x0), (1, .int x1), (2, .int x2)]) dX11_signalsNow_110 rfl (by rfl) (by decide) rfl ?_
  refine xt_goto (tgt := 43) dX11_signalsNow_113 (by decide) ?_
  exact xt_sub (lv' := [(0, .ref x0), (1, .int x1), (2, .int x2), (3, .int (x3 + 1))]) [1, 2, 3, 0] rfl H
def DX11_signalsNow_43 (h : Nat) (x0 : Nat) (x1 : Int32) (x2 : Int32) (x3 : Int32) (M : Mem) (Q : Option Value → Mem → Prop) : Prop :=
  ok M x0 13 ∧ ∃ b2 : Nat, mR M x0 61 = some b2 ∧ ok M b2 21 ∧ vp_in (mI M x0 84) (mL M b2) ∧ (((700 * (mI M x0 84)) + (mAI M b2 (mI M x0 84 : Int32).toNatClampNeg)) ≤ x3 → ∃ b4 : Nat, mR M x0 82 = some b4 ∧ E h mdX11_known [.ref x0, .ref b4, .int x1, .int x2] M (fun r M5 => mE M M5 → r = none ∧ DX11_signalsNow_126 h x0 x1 M5 Q)) ∧
  (¬ (((700 * (mI M x0 84)) + (mAI M b2 (mI M x0 84 : Int32).toNatClampNeg)) ≤ x3) → ∃ b6 : Nat, mR M x0 62 = some b6 ∧ ok M b6 21 ∧ vp_in x3 (mL M b6) ∧ (¬ (mAI M b6 (x3 : Int32).toNatClampNeg) = 1 → DX11_signalsNow_110 h x0 x1 x2 x3 M Q) ∧
  ((mAI M b6 (x3 : Int32).toNatClampNeg) = 1 → ∃ b8 : Nat, mR M x0 40 = some b8 ∧ ∃ b9 : Nat, mR M x0 63 = some b9 ∧ ok M b9 21 ∧ vp_in x3 (mL M b9) ∧ ok M b8 21 ∧ vp_in (mAI M b9 (x3 : Int32).toNatClampNeg) (mL M b8) ∧ (¬ (mAI M b8 (mAI M b9 (x3 : Int32).toNatClampNeg : Int32).toNatClampNeg) = x1 → DX11_signalsNow_110 h x0 x1 x2 x3 M Q) ∧
  ((mAI M b8 (mAI M b9 (x3 : Int32).toNatClampNeg : Int32).toNatClampNeg) = x1 → ∃ b12 : Nat, mR M x0 77 = some b12 ∧ ok M b12 21 ∧ vp_in (x3 - (700 * (mI M x0 84))) (mL M b12) ∧ E h mdX11_either [.int x2, .int (mAI M b12 (x3 - (700 * (mI M x0 84)) : Int32).toNatClampNeg)] M (fun r M14 => mE M M14 → ∃ r15 : Int32, r = some (.int r15) ∧ DX11_signalsNow_110 h x0 x1 r15 x3 M14 Q))))
set_option maxRecDepth 20000 in
set_option maxHeartbeats 2000000 in
theorem VX11_signalsNow_43 {h : Nat} {x0 : Nat} {x1 : Int32} {x2 : Int32} {x3 : Int32} {M : Mem} {Q : Option Value → Mem → Prop} (H : DX11_signalsNow_43 h x0 x1 x2 x3 M Q) : T (h + 1) mdX11_signalsNow 43 [(0, .ref x0), (1, .int x1), (2, .int x2), (3, .int x3)] [] M Q := by
  unfold DX11_signalsNow_43 at H
  refine xt_iload_n (j := 3) dX11_signalsNow_43 rfl rfl ?_
  refine xt_sipush (v := 700) dX11_signalsNow_44 (by decide) ?_
  refine xt_aload_n (j := 0) dX11_signalsNow_47 rfl rfl ?_
  obtain ⟨ho1, H⟩ := H
  refine xt_getI dX11_signalsNow_48 (flX11_742 rfl) ft_13_84 ho1.1 ho1.2 ?_
  refine xt_imul dX11_signalsNow_51 ?_
  refine xt_aload_n (j := 0) dX11_signalsNow_52 rfl rfl ?_
  obtain ⟨b2, hb, H⟩ := H
  refine xt_getR dX11_signalsNow_53 (flX11_159 rfl) ft_13_61 ho1.1 ho1.2 hb ?_
  refine xt_aload_n (j := 0) dX11_signalsNow_56 rfl rfl ?_
  refine xt_getI dX11_signalsNow_57 (flX11_742 rfl) ft_13_84 ho1.1 ho1.2 ?_
  obtain ⟨ho3, H⟩ := H
  obtain ⟨hi, H⟩ := H
  refine xt_iald dX11_signalsNow_60 ho3.1 ho3.2 hi ?_
  refine xt_iadd dX11_signalsNow_61 ?_
  refine xt_icmp_ge (tgt := 116) dX11_signalsNow_62 (by decide) (fun hc => ?_) (fun hc => ?_)
  · have H := H.1 hc
    refine xt_aload_n (j := 0) dX11_signalsNow_116 rfl rfl ?_
    refine xt_aload_n (j := 0) dX11_signalsNow_117 rfl rfl ?_
    obtain ⟨b4, hb, H⟩ := H
    refine xt_getR dX11_signalsNow_118 (flX11_222 rfl) ft_13_82 ho1.1 ho1.2 hb ?_
    refine xt_iload_n (j := 1) dX11_signalsNow_121 rfl rfl ?_
    refine xt_iload_n (j := 2) dX11_signalsNow_122 rfl rfl ?_
    refine xt_callV (h2 := h) (as := [.ref b4, .int x1, .int x2]) (st := []) dX11_signalsNow_123 (mlX11_767 rfl) rfl ho1.1 ⟨by rw [ho1.2]; rfl, by rw [ho1.2]; decide⟩ (by first | decide | (simp [Value.category]; done)) (Nat.le_refl _) H (fun r M5 HH hE => ?_)
    obtain ⟨hr, H⟩ := HH hE
    subst hr
    have ho1 := ok_E ho1 hE
    show T _ _ _ _ [] _ _
    exact xt_sub [0, 1] rfl (VX11_signalsNow_126 H)
  · have H := H.2 hc
    refine xt_aload_n (j := 0) dX11_signalsNow_65 rfl rfl ?_
    obtain ⟨b6, hb, H⟩ := H
    refine xt_getR dX11_signalsNow_66 (flX11_162 rfl) ft_13_62 ho1.1 ho1.2 hb ?_
    refine xt_iload_n (j := 3) dX11_signalsNow_69 rfl rfl ?_
    obtain ⟨ho7, H⟩ := H
    obtain ⟨hi, H⟩ := H
    refine xt_iald dX11_signalsNow_70 ho7.1 ho7.2 hi ?_
    refine xt_iconst (v := 1) dX11_signalsNow_71 (by decide) ?_
    refine xt_icmp_ne (tgt := 110) dX11_signalsNow_72 (by decide) (fun hc => ?_) (fun hc => ?_)
    · have H := H.1 hc
      exact xt_sub [0, 1, 2, 3] rfl (VX11_signalsNow_110 H)
    · have H := H.2 hc
      refine xt_aload_n (j := 0) dX11_signalsNow_75 rfl rfl ?_
      obtain ⟨b8, hb, H⟩ := H
      refine xt_getR dX11_signalsNow_76 (flX11_102 rfl) ft_13_40 ho1.1 ho1.2 hb ?_
      refine xt_aload_n (j := 0) dX11_signalsNow_79 rfl rfl ?_
      obtain ⟨b9, hb, H⟩ := H
      refine xt_getR dX11_signalsNow_80 (flX11_165 rfl) ft_13_63 ho1.1 ho1.2 hb ?_
      refine xt_iload_n (j := 3) dX11_signalsNow_83 rfl rfl ?_
      obtain ⟨ho10, H⟩ := H
      obtain ⟨hi, H⟩ := H
      refine xt_iald dX11_signalsNow_84 ho10.1 ho10.2 hi ?_
      obtain ⟨ho11, H⟩ := H
      obtain ⟨hi, H⟩ := H
      refine xt_iald dX11_signalsNow_85 ho11.1 ho11.2 hi ?_
      refine xt_iload_n (j := 1) dX11_signalsNow_86 rfl rfl ?_
      refine xt_icmp_ne (tgt := 110) dX11_signalsNow_87 (by decide) (fun hc => ?_) (fun hc => ?_)
      · have H := H.1 hc
        exact xt_sub [0, 1, 2, 3] rfl (VX11_signalsNow_110 H)
      · have H := H.2 hc
        refine xt_iload_n (j := 2) dX11_signalsNow_90 rfl rfl ?_
        refine xt_aload_n (j := 0) dX11_signalsNow_91 rfl rfl ?_
        obtain ⟨b12, hb, H⟩ := H
        refine xt_getR dX11_signalsNow_92 (flX11_207 rfl) ft_13_77 ho1.1 ho1.2 hb ?_
        refine xt_iload_n (j := 3) dX11_signalsNow_95 rfl rfl ?_
        refine xt_sipush (v := 700) dX11_signalsNow_96 (by decide) ?_
        refine xt_aload_n (j := 0) dX11_signalsNow_99 rfl rfl ?_
        refine xt_getI dX11_signalsNow_100 (flX11_742 rfl) ft_13_84 ho1.1 ho1.2 ?_
        refine xt_imul dX11_signalsNow_103 ?_
        refine xt_isub dX11_signalsNow_104 ?_
        obtain ⟨ho13, H⟩ := H
        obtain ⟨hi, H⟩ := H
        refine xt_iald dX11_signalsNow_105 ho13.1 ho13.2 hi ?_
        refine xt_callS (h2 := h) (as := [.int x2, .int (mAI M b12 (x3 - (700 * (mI M x0 84)) : Int32).toNatClampNeg)]) (st := []) dX11_signalsNow_106 (mlX11_739 rfl) rfl (by first | decide | (simp [Value.category]; done)) (Nat.le_refl _) H (fun r M14 HH hE => ?_)
        obtain ⟨r15, hr, H⟩ := HH hE
        subst hr
        have ho1 := ok_E ho1 hE
        show T _ _ _ _ [.int r15] _ _
        refine xt_istore_n (lv' := [(2, .int r15), (0, .ref x0), (1, .int x1), (3, .int x3)]) dX11_signalsNow_109 rfl (by decide) rfl ?_
        exact xt_sub [1, 2, 0, 3] rfl (VX11_signalsNow_110 H)
def DX11_signalsNow_2 (h : Nat) (x0 : Nat) (x1 : Int32) (M : Mem) (Q : Option Value → Mem → Prop) : Prop :=
  ok M x0 13 ∧ ∃ b2 : Nat, mR M x0 8 = some b2 ∧ ok M b2 21 ∧ vp_in (mI M x0 84) (mL M b2) ∧ ((mAI M b2 (mI M x0 84 : Int32).toNatClampNeg) ≤ x1 → Q none M) ∧
  (¬ ((mAI M b2 (mI M x0 84 : Int32).toNatClampNeg) ≤ x1) → ∃ b4 : Nat, mR M x0 12 = some b4 ∧ ok M b4 21 ∧ vp_in ((16 * (mI M x0 84)) + x1) (mL M b4) ∧ ((mAI M b4 ((16 * (mI M x0 84)) + x1 : Int32).toNatClampNeg) ≤ 0 → DX11_signalsNow_126 h x0 x1 M Q) ∧
  (¬ ((mAI M b4 ((16 * (mI M x0 84)) + x1 : Int32).toNatClampNeg) ≤ 0) → T (h + 1) mdX11_signalsNow 43 [(0, .ref x0), (1, .int x1), (2, .int 0), (3, .int (700 * (mI M x0 84)))] [] M Q))
set_option maxRecDepth 20000 in
set_option maxHeartbeats 2000000 in
theorem VX11_signalsNow_2 {h : Nat} {x0 : Nat} {x1 : Int32} {M : Mem} {Q : Option Value → Mem → Prop} (H : DX11_signalsNow_2 h x0 x1 M Q) : T (h + 1) mdX11_signalsNow 2 [(0, .ref x0), (1, .int x1)] [] M Q := by
  unfold DX11_signalsNow_2 at H
  refine xt_iload_n (j := 1) dX11_signalsNow_2 rfl rfl ?_
  refine xt_aload_n (j := 0) dX11_signalsNow_3 rfl rfl ?_
  obtain ⟨ho1, H⟩ := H
  obtain ⟨b2, hb, H⟩ := H
  refine xt_getR dX11_signalsNow_4 (flX11_23 rfl) ft_13_8 ho1.1 ho1.2 hb ?_
  refine xt_aload_n (j := 0) dX11_signalsNow_7 rfl rfl ?_
  refine xt_getI dX11_signalsNow_8 (flX11_742 rfl) ft_13_84 ho1.1 ho1.2 ?_
  obtain ⟨ho3, H⟩ := H
  obtain ⟨hi, H⟩ := H
  refine xt_iald dX11_signalsNow_11 ho3.1 ho3.2 hi ?_
  refine xt_icmp_ge (tgt := 132) dX11_signalsNow_12 (by decide) (fun hc => ?_) (fun hc => ?_)
  · have H := H.1 hc
    exact xt_return dX11_signalsNow_132 rfl H
  · have H := H.2 hc
    refine xt_aload_n (j := 0) dX11_signalsNow_15 rfl rfl ?_
    obtain ⟨b4, hb, H⟩ := H
    refine xt_getR dX11_signalsNow_16 (flX11_35 rfl) ft_13_12 ho1.1 ho1.2 hb ?_
    refine xt_bipush (v := 16) dX11_signalsNow_19 (by decide) ?_
    refine xt_aload_n (j := 0) dX11_signalsNow_21 rfl rfl ?_
    refine xt_getI dX11_signalsNow_22 (flX11_742 rfl) ft_13_84 ho1.1 ho1.2 ?_
    refine xt_imul dX11_signalsNow_25 ?_
    refine xt_iload_n (j := 1) dX11_signalsNow_26 rfl rfl ?_
    refine xt_iadd dX11_signalsNow_27 ?_
    obtain ⟨ho5, H⟩ := H
    obtain ⟨hi, H⟩ := H
    refine xt_iald dX11_signalsNow_28 ho5.1 ho5.2 hi ?_
    refine xt_if_le (tgt := 126) dX11_signalsNow_29 (by decide) (fun hc => ?_) (fun hc => ?_)
    · have H := H.1 hc
      exact xt_sub [0, 1] rfl (VX11_signalsNow_126 H)
    · have H := H.2 hc
      refine xt_iconst (v := 0) dX11_signalsNow_32 (by decide) ?_
      refine xt_istore_n (lv' := [(2, .int 0), (0, .ref x0), (1, .int x1)]) dX11_signalsNow_33 rfl (by decide) rfl ?_
      refine xt_sipush (v := 700) dX11_signalsNow_34 (by decide) ?_
      refine xt_aload_n (j := 1) dX11_signalsNow_37 rfl rfl ?_
      refine xt_getI dX11_signalsNow_38 (flX11_742 rfl) ft_13_84 ho1.1 ho1.2 ?_
      refine xt_imul dX11_signalsNow_41 ?_
      refine xt_istore_n (lv' := [(3, .int (700 * (mI M x0 84))), (2, .int 0), (0, .ref x0), (1, .int x1)]) dX11_signalsNow_42 rfl (by decide) rfl ?_
      exact xt_sub (lv' := [(0, .ref x0), (1, .int x1), (2, .int 0), (3, .int (700 * (mI M x0 84)))]) [2, 3, 1, 0] rfl H
def DX11_signalsNow_0 (h : Nat) (x0 : Nat) (M : Mem) (Q : Option Value → Mem → Prop) : Prop :=
  T (h + 1) mdX11_signalsNow 2 [(0, .ref x0), (1, .int 0)] [] M Q
set_option maxRecDepth 20000 in
set_option maxHeartbeats 2000000 in
theorem VX11_signalsNow_0 {h : Nat} {x0 : Nat} {M : Mem} {Q : Option Value → Mem → Prop} (H : DX11_signalsNow_0 h x0 M Q) : T (h + 1) mdX11_signalsNow 0 [(0, .ref x0)] [] M Q := by
  unfold DX11_signalsNow_0 at H
  refine xt_iconst (v := 0) dX11_signalsNow_0 (by decide) ?_
  refine xt_istore_n (lv' := [(1, .int 0), (0, .ref x0)]) dX11_signalsNow_1 rfl (by decide) rfl ?_
  exact xt_sub (lv' := [(0, .ref x0), (1, .int 0)]) [1, 0] rfl H
theorem KX11_signalsNow {h : Nat} {x0 : Nat} {M : Mem} {Q : Option Value → Mem → Prop} (H : DX11_signalsNow_0 h x0 M Q) : E (h + 1) mdX11_signalsNow [.ref x0] M Q := E.of (by decide) (Nat.le_of_ble_eq_true rfl) (fun _ _ _ => trivial) (VX11_signalsNow_0 H)
def DX11_solve_425 (h : Nat) (x0 : Nat) (x1 : Int32) (x2 : Int32) (x3 : Int32) (M : Mem) (Q : Option Value → Mem → Prop) : Prop :=
  T (h + 1) mdX11_solve 321 [(0, .ref x0), (1, .int x1), (2, .int x2), (3, .int (x3 + 1))] [] M Q
set_option maxRecDepth 20000 in
set_option maxHeartbeats 2000000 in
theorem VX11_solve_425 {h : Nat} {x0 : Nat} {x1 : Int32} {x2 : Int32} {x3 : Int32} {M : Mem} {Q : Option Value → Mem → Prop} (H : DX11_solve_425 h x0 x1 x2 x3 M Q) : T (h + 1) mdX11_solve 425 [(0, .ref x0), (1, .int x1), (2, .int x2), (3, .int x3)] [] M Q := by
  unfold DX11_solve_425 at H
  refine xt_iinc (j := 3) (v := x3 + 1) (lv' := [(3, .int (x3 + 1)), (0, .ref x0), (1, .int x1), (2, .int x2)]) dX11_solve_425 rfl (by rfl) (by decide) rfl ?_
  refine xt_goto (tgt := 321) dX11_solve_428 (by decide) ?_
  exact xt_sub (lv' := [(0, .ref x0), (1, .int x1), (2, .int x2), (3, .int (x3 + 1))]) [1, 2, 3, 0] rfl H
def DX11_solve_418 (h : Nat) (x0 : Nat) (x1 : Int32) (x3 : Int32) (x4 : Int32) (s0 : Int32) (M : Mem) (Q : Option Value → Mem → Prop) : Prop :=
  T (h + 1) mdX11_solve 379 [(0, .ref x0), (1, .int x1), (2, .int s0), (3, .int x3), (4, .int (x4 + 1))] [] M Q
set_option maxRecDepth 20000 in
set_option maxHeartbeats 2000000 in
theorem VX11_solve_418 {h : Nat} {x0 : Nat} {x1 : Int32} {x3 : Int32} {x4 : Int32} {s0 : Int32} {M : Mem} {Q : Option Value → Mem → Prop} (H : DX11_solve_418 h x0 x1 x3 x4 s0 M Q) : T (h + 1) mdX11_solve 418 [(0, .ref x0), (1, .int x1), (3, .int x3), (4, .int x4)] [.int s0] M Q := by
  unfold DX11_solve_418 at H
  refine xt_istore_n (lv' := [(2, .int s0), (0, .ref x0), (1, .int x1), (3, .int x3), (4, .int x4)]) dX11_solve_418 rfl (by decide) rfl ?_
  refine xt_iinc (j := 4) (v := x4 + 1) (lv' := [(4, .int (x4 + 1)), (2, .int s0), (0, .ref x0), (1, .int x1), (3, .int x3)]) dX11_solve_419 rfl (by rfl) (by decide) rfl ?_
  refine xt_goto (tgt := 379) dX11_solve_422 (by decide) ?_
  exact xt_sub (lv' := [(0, .ref x0), (1, .int x1), (2, .int s0), (3, .int x3), (4, .int (x4 + 1))]) [2, 3, 1, 4, 0] rfl H
def DX11_solve_379 (h : Nat) (x0 : Nat) (x1 : Int32) (x2 : Int32) (x3 : Int32) (x4 : Int32) (M : Mem) (Q : Option Value → Mem → Prop) : Prop :=
  ok M x0 13 ∧ ∃ b2 : Nat, mR M x0 74 = some b2 ∧ ok M b2 21 ∧ vp_in (mI M x0 84) (mL M b2) ∧ ((mAI M b2 (mI M x0 84 : Int32).toNatClampNeg) ≤ x4 → DX11_solve_425 h x0 x1 x2 x3 M Q) ∧
  (¬ ((mAI M b2 (mI M x0 84 : Int32).toNatClampNeg) ≤ x4) → (x2 = 0 → DX11_solve_425 h x0 x1 x2 x3 M Q) ∧
  (¬ (x2 = 0) → ∃ b4 : Nat, mR M x0 81 = some b4 ∧ ok M b4 21 ∧ vp_in ((24 * x3) + x4) (mL M b4) ∧ (2 ≤ (mAI M b4 ((24 * x3) + x4 : Int32).toNatClampNeg) → DX11_solve_418 h x0 x1 x3 x4 0 M Q) ∧
  (¬ (2 ≤ (mAI M b4 ((24 * x3) + x4 : Int32).toNatClampNeg)) → DX11_solve_418 h x0 x1 x3 x4 1 M Q)))
set_option maxRecDepth 20000 in
set_option maxHeartbeats 2000000 in
theorem VX11_solve_379 {h : Nat} {x0 : Nat} {x1 : Int32} {x2 : Int32} {x3 : Int32} {x4 : Int32} {M : Mem} {Q : Option Value → Mem → Prop} (H : DX11_solve_379 h x0 x1 x2 x3 x4 M Q) : T (h + 1) mdX11_solve 379 [(0, .ref x0), (1, .int x1), (2, .int x2), (3, .int x3), (4, .int x4)] [] M Q := by
  unfold DX11_solve_379 at H
  refine xt_iload (j := 4) dX11_solve_379 rfl ?_
  refine xt_aload_n (j := 0) dX11_solve_381 rfl rfl ?_
  obtain ⟨ho1, H⟩ := H
  obtain ⟨b2, hb, H⟩ := H
  refine xt_getR dX11_solve_382 (flX11_198 rfl) ft_13_74 ho1.1 ho1.2 hb ?_
  refine xt_aload_n (j := 0) dX11_solve_385 rfl rfl ?_
  refine xt_getI dX11_solve_386 (flX11_742 rfl) ft_13_84 ho1.1 ho1.2 ?_
  obtain ⟨ho3, H⟩ := H
  obtain ⟨hi, H⟩ := H
  refine xt_iald dX11_solve_389 ho3.1 ho3.2 hi ?_
  refine xt_icmp_ge (tgt := 425) dX11_solve_390 (by decide) (fun hc => ?_) (fun hc => ?_)
  · have H := H.1 hc
    exact xt_sub [0, 1, 2, 3] rfl (VX11_solve_425 H)
  · have H := H.2 hc
    refine xt_iload_n (j := 2) dX11_solve_393 rfl rfl ?_
    refine xt_if_eq (tgt := 425) dX11_solve_394 (by decide) (fun hc => ?_) (fun hc => ?_)
    · have H := H.1 hc
      exact xt_sub [0, 1, 2, 3] rfl (VX11_solve_425 H)
    · have H := H.2 hc
      refine xt_aload_n (j := 0) dX11_solve_397 rfl rfl ?_
      obtain ⟨b4, hb, H⟩ := H
      refine xt_getR dX11_solve_398 (flX11_219 rfl) ft_13_81 ho1.1 ho1.2 hb ?_
      refine xt_bipush (v := 24) dX11_solve_401 (by decide) ?_
      refine xt_iload_n (j := 3) dX11_solve_403 rfl rfl ?_
      refine xt_imul dX11_solve_404 ?_
      refine xt_iload (j := 4) dX11_solve_405 rfl ?_
      refine xt_iadd dX11_solve_407 ?_
      obtain ⟨ho5, H⟩ := H
      obtain ⟨hi, H⟩ := H
      refine xt_iald dX11_solve_408 ho5.1 ho5.2 hi ?_
      refine xt_iconst (v := 2) dX11_solve_409 (by decide) ?_
      refine xt_icmp_ge (tgt := 417) dX11_solve_410 (by decide) (fun hc => ?_) (fun hc => ?_)
      · have H := H.1 hc
        refine xt_iconst (v := 0) dX11_solve_417 (by decide) ?_
        exact xt_sub [0, 1, 3, 4] rfl (VX11_solve_418 H)
      · have H := H.2 hc
        refine xt_iconst (v := 1) dX11_solve_413 (by decide) ?_
        refine xt_goto (tgt := 418) dX11_solve_414 (by decide) ?_
        exact xt_sub [0, 1, 3, 4] rfl (VX11_solve_418 H)
def DX11_solve_375 (h : Nat) (x0 : Nat) (x1 : Int32) (x3 : Int32) (s0 : Int32) (M : Mem) (Q : Option Value → Mem → Prop) : Prop :=
  T (h + 1) mdX11_solve 379 [(0, .ref x0), (1, .int x1), (2, .int s0), (3, .int x3), (4, .int 0)] [] M Q
set_option maxRecDepth 20000 in
set_option maxHeartbeats 2000000 in
theorem VX11_solve_375 {h : Nat} {x0 : Nat} {x1 : Int32} {x3 : Int32} {s0 : Int32} {M : Mem} {Q : Option Value → Mem → Prop} (H : DX11_solve_375 h x0 x1 x3 s0 M Q) : T (h + 1) mdX11_solve 375 [(0, .ref x0), (1, .int x1), (3, .int x3)] [.int s0] M Q := by
  unfold DX11_solve_375 at H
  refine xt_istore_n (lv' := [(2, .int s0), (0, .ref x0), (1, .int x1), (3, .int x3)]) dX11_solve_375 rfl (by decide) rfl ?_
  refine xt_iconst (v := 0) dX11_solve_376 (by decide) ?_
  refine xt_istore (lv' := [(4, .int 0), (2, .int s0), (0, .ref x0), (1, .int x1), (3, .int x3)]) dX11_solve_377 (by decide) rfl ?_
  exact xt_sub (lv' := [(0, .ref x0), (1, .int x1), (2, .int s0), (3, .int x3), (4, .int 0)]) [2, 3, 1, 4, 0] rfl H
def DX11_solve_374 (h : Nat) (x0 : Nat) (x1 : Int32) (x3 : Int32) (M : Mem) (Q : Option Value → Mem → Prop) : Prop :=
  DX11_solve_375 h x0 x1 x3 0 M Q
set_option maxRecDepth 20000 in
set_option maxHeartbeats 2000000 in
theorem VX11_solve_374 {h : Nat} {x0 : Nat} {x1 : Int32} {x3 : Int32} {M : Mem} {Q : Option Value → Mem → Prop} (H : DX11_solve_374 h x0 x1 x3 M Q) : T (h + 1) mdX11_solve 374 [(0, .ref x0), (1, .int x1), (3, .int x3)] [] M Q := by
  unfold DX11_solve_374 at H
  refine xt_iconst (v := 0) dX11_solve_374 (by decide) ?_
  exact xt_sub [0, 1, 2] rfl (VX11_solve_375 H)
def DX11_solve_321 (h : Nat) (x0 : Nat) (x1 : Int32) (x2 : Int32) (x3 : Int32) (M : Mem) (Q : Option Value → Mem → Prop) : Prop :=
  (x1 ≤ x3 → (x2 = 0 ∨ x2 = 1) ∧ Q (some (.int x2)) M) ∧
  (¬ (x1 ≤ x3) → (x2 = 0 → DX11_solve_374 h x0 x1 x3 M Q) ∧
  (¬ (x2 = 0) → ok M x0 13 ∧ ∃ b2 : Nat, mR M x0 77 = some b2 ∧ ok M b2 21 ∧ vp_in x3 (mL M b2) ∧ (2 ≤ (mAI M b2 (x3 : Int32).toNatClampNeg) → DX11_solve_374 h x0 x1 x3 M Q) ∧
  (¬ (2 ≤ (mAI M b2 (x3 : Int32).toNatClampNeg)) → ∃ b4 : Nat, mR M x0 78 = some b4 ∧ ok M b4 21 ∧ vp_in x3 (mL M b4) ∧ (2 ≤ (mAI M b4 (x3 : Int32).toNatClampNeg) → DX11_solve_374 h x0 x1 x3 M Q) ∧
  (¬ (2 ≤ (mAI M b4 (x3 : Int32).toNatClampNeg)) → ∃ b6 : Nat, mR M x0 79 = some b6 ∧ ok M b6 21 ∧ vp_in x3 (mL M b6) ∧ (2 ≤ (mAI M b6 (x3 : Int32).toNatClampNeg) → DX11_solve_374 h x0 x1 x3 M Q) ∧
  (¬ (2 ≤ (mAI M b6 (x3 : Int32).toNatClampNeg)) → ∃ b8 : Nat, mR M x0 80 = some b8 ∧ ok M b8 21 ∧ vp_in x3 (mL M b8) ∧ (2 ≤ (mAI M b8 (x3 : Int32).toNatClampNeg) → DX11_solve_374 h x0 x1 x3 M Q) ∧
  (¬ (2 ≤ (mAI M b8 (x3 : Int32).toNatClampNeg)) → DX11_solve_375 h x0 x1 x3 1 M Q))))))
set_option maxRecDepth 20000 in
set_option maxHeartbeats 2000000 in
theorem VX11_solve_321 {h : Nat} {x0 : Nat} {x1 : Int32} {x2 : Int32} {x3 : Int32} {M : Mem} {Q : Option Value → Mem → Prop} (H : DX11_solve_321 h x0 x1 x2 x3 M Q) : T (h + 1) mdX11_solve 321 [(0, .ref x0), (1, .int x1), (2, .int x2), (3, .int x3)] [] M Q := by
  unfold DX11_solve_321 at H
  refine xt_iload_n (j := 3) dX11_solve_321 rfl rfl ?_
  refine xt_iload_n (j := 1) dX11_solve_322 rfl rfl ?_
  refine xt_icmp_ge (tgt := 431) dX11_solve_323 (by decide) (fun hc => ?_) (fun hc => ?_)
  · have H := H.1 hc
    refine xt_iload_n (j := 2) dX11_solve_431 rfl rfl ?_
    exact xt_zreturn dX11_solve_432 rfl H.1 H.2
  · have H := H.2 hc
    refine xt_iload_n (j := 2) dX11_solve_326 rfl rfl ?_
    refine xt_if_eq (tgt := 374) dX11_solve_327 (by decide) (fun hc => ?_) (fun hc => ?_)
    · have H := H.1 hc
      exact xt_sub [0, 1, 3] rfl (VX11_solve_374 H)
    · have H := H.2 hc
      refine xt_aload_n (j := 0) dX11_solve_330 rfl rfl ?_
      obtain ⟨ho1, H⟩ := H
      obtain ⟨b2, hb, H⟩ := H
      refine xt_getR dX11_solve_331 (flX11_207 rfl) ft_13_77 ho1.1 ho1.2 hb ?_
      refine xt_iload_n (j := 3) dX11_solve_334 rfl rfl ?_
      obtain ⟨ho3, H⟩ := H
      obtain ⟨hi, H⟩ := H
      refine xt_iald dX11_solve_335 ho3.1 ho3.2 hi ?_
      refine xt_iconst (v := 2) dX11_solve_336 (by decide) ?_
      refine xt_icmp_ge (tgt := 374) dX11_solve_337 (by decide) (fun hc => ?_) (fun hc => ?_)
      · have H := H.1 hc
        exact xt_sub [0, 1, 3] rfl (VX11_solve_374 H)
      · have H := H.2 hc
        refine xt_aload_n (j := 0) dX11_solve_340 rfl rfl ?_
        obtain ⟨b4, hb, H⟩ := H
        refine xt_getR dX11_solve_341 (flX11_210 rfl) ft_13_78 ho1.1 ho1.2 hb ?_
        refine xt_iload_n (j := 3) dX11_solve_344 rfl rfl ?_
        obtain ⟨ho5, H⟩ := H
        obtain ⟨hi, H⟩ := H
        refine xt_iald dX11_solve_345 ho5.1 ho5.2 hi ?_
        refine xt_iconst (v := 2) dX11_solve_346 (by decide) ?_
        refine xt_icmp_ge (tgt := 374) dX11_solve_347 (by decide) (fun hc => ?_) (fun hc => ?_)
        · have H := H.1 hc
          exact xt_sub [0, 1, 3] rfl (VX11_solve_374 H)
        · have H := H.2 hc
          refine xt_aload_n (j := 0) dX11_solve_350 rfl rfl ?_
          obtain ⟨b6, hb, H⟩ := H
          refine xt_getR dX11_solve_351 (flX11_213 rfl) ft_13_79 ho1.1 ho1.2 hb ?_
          refine xt_iload_n (j := 3) dX11_solve_354 rfl rfl ?_
          obtain ⟨ho7, H⟩ := H
          obtain ⟨hi, H⟩ := H
          refine xt_iald dX11_solve_355 ho7.1 ho7.2 hi ?_
          refine xt_iconst (v := 2) dX11_solve_356 (by decide) ?_
          refine xt_icmp_ge (tgt := 374) dX11_solve_357 (by decide) (fun hc => ?_) (fun hc => ?_)
          · have H := H.1 hc
            exact xt_sub [0, 1, 3] rfl (VX11_solve_374 H)
          · have H := H.2 hc
            refine xt_aload_n (j := 0) dX11_solve_360 rfl rfl ?_
            obtain ⟨b8, hb, H⟩ := H
            refine xt_getR dX11_solve_361 (flX11_216 rfl) ft_13_80 ho1.1 ho1.2 hb ?_
            refine xt_iload_n (j := 3) dX11_solve_364 rfl rfl ?_
            obtain ⟨ho9, H⟩ := H
            obtain ⟨hi, H⟩ := H
            refine xt_iald dX11_solve_365 ho9.1 ho9.2 hi ?_
            refine xt_iconst (v := 2) dX11_solve_366 (by decide) ?_
            refine xt_icmp_ge (tgt := 374) dX11_solve_367 (by decide) (fun hc => ?_) (fun hc => ?_)
            · have H := H.1 hc
              exact xt_sub [0, 1, 3] rfl (VX11_solve_374 H)
            · have H := H.2 hc
              refine xt_iconst (v := 1) dX11_solve_370 (by decide) ?_
              refine xt_goto (tgt := 375) dX11_solve_371 (by decide) ?_
              exact xt_sub [0, 1, 3] rfl (VX11_solve_375 H)
def DX11_solve_304 (h : Nat) (x0 : Nat) (x1 : Int32) (x2 : Int32) (M : Mem) (Q : Option Value → Mem → Prop) : Prop :=
  T (h + 1) mdX11_solve 199 [(0, .ref x0), (1, .int x1), (2, .int (x2 + 1))] [] M Q
set_option maxRecDepth 20000 in
set_option maxHeartbeats 2000000 in
theorem VX11_solve_304 {h : Nat} {x0 : Nat} {x1 : Int32} {x2 : Int32} {M : Mem} {Q : Option Value → Mem → Prop} (H : DX11_solve_304 h x0 x1 x2 M Q) : T (h + 1) mdX11_solve 304 [(0, .ref x0), (1, .int x1), (2, .int x2)] [] M Q := by
  unfold DX11_solve_304 at H
  refine xt_iinc (j := 2) (v := x2 + 1) (lv' := [(2, .int (x2 + 1)), (0, .ref x0), (1, .int x1)]) dX11_solve_304 rfl (by rfl) (by decide) rfl ?_
  refine xt_goto (tgt := 199) dX11_solve_307 (by decide) ?_
  exact xt_sub (lv' := [(0, .ref x0), (1, .int x1), (2, .int (x2 + 1))]) [1, 2, 0] rfl H
def DX11_solve_251 (h : Nat) (x0 : Nat) (x1 : Int32) (x2 : Int32) (x4 : Int32) (x5 : Int32) (M : Mem) (Q : Option Value → Mem → Prop) : Prop :=
  ok M x0 13 ∧ ∃ b2 : Nat, mR M x0 74 = some b2 ∧ ok M b2 21 ∧ vp_in (mI M x0 84) (mL M b2) ∧ ((mAI M b2 (mI M x0 84 : Int32).toNatClampNeg) ≤ x5 → DX11_solve_304 h x0 x1 x2 M Q) ∧
  (¬ ((mAI M b2 (mI M x0 84 : Int32).toNatClampNeg) ≤ x5) → ∃ b4 : Nat, mR M x0 81 = some b4 ∧ E h mdX11_codeValue [.ref x0, .int x4, .int x5] M (fun r M5 => mE M M5 → ∃ r6 : Int32, r = some (.int r6) ∧ E h mdX11_known [.ref x0, .ref b4, .int ((24 * (x4 - (700 * (mI M x0 84)))) + x5), .int r6] M5 (fun r M7 => mE M5 M7 → r = none ∧ T (h + 1) mdX11_solve 251 [(0, .ref x0), (1, .int x1), (2, .int x2), (4, .int x4), (5, .int (x5 + 1))] [] M7 Q)))
set_option maxRecDepth 20000 in
set_option maxHeartbeats 2000000 in
theorem VX11_solve_251 {h : Nat} {x0 : Nat} {x1 : Int32} {x2 : Int32} {x4 : Int32} {x5 : Int32} {M : Mem} {Q : Option Value → Mem → Prop} (H : DX11_solve_251 h x0 x1 x2 x4 x5 M Q) : T (h + 1) mdX11_solve 251 [(0, .ref x0), (1, .int x1), (2, .int x2), (4, .int x4), (5, .int x5)] [] M Q := by
  unfold DX11_solve_251 at H
  refine xt_iload (j := 4) dX11_solve_251 rfl ?_
  refine xt_aload_n (j := 0) dX11_solve_253 rfl rfl ?_
  obtain ⟨ho1, H⟩ := H
  obtain ⟨b2, hb, H⟩ := H
  refine xt_getR dX11_solve_254 (flX11_198 rfl) ft_13_74 ho1.1 ho1.2 hb ?_
  refine xt_aload_n (j := 0) dX11_solve_257 rfl rfl ?_
  refine xt_getI dX11_solve_258 (flX11_742 rfl) ft_13_84 ho1.1 ho1.2 ?_
  obtain ⟨ho3, H⟩ := H
  obtain ⟨hi, H⟩ := H
  refine xt_iald dX11_solve_261 ho3.1 ho3.2 hi ?_
  refine xt_icmp_ge (tgt := 304) dX11_solve_262 (by decide) (fun hc => ?_) (fun hc => ?_)
  · have H := H.1 hc
    exact xt_sub [0, 1, 2] rfl (VX11_solve_304 H)
  · have H := H.2 hc
    refine xt_aload_n (j := 0) dX11_solve_265 rfl rfl ?_
    refine xt_aload_n (j := 0) dX11_solve_266 rfl rfl ?_
    obtain ⟨b4, hb, H⟩ := H
    refine xt_getR dX11_solve_267 (flX11_219 rfl) ft_13_81 ho1.1 ho1.2 hb ?_
    refine xt_bipush (v := 24) dX11_solve_270 (by decide) ?_
    refine xt_iload (j := 3) dX11_solve_272 rfl ?_
    refine xt_sipush (v := 700) dX11_solve_274 (by decide) ?_
    refine xt_aload_n (j := 0) dX11_solve_277 rfl rfl ?_
    refine xt_getI dX11_solve_278 (flX11_742 rfl) ft_13_84 ho1.1 ho1.2 ?_
    refine xt_imul dX11_solve_281 ?_
    refine xt_isub dX11_solve_282 ?_
    refine xt_imul dX11_solve_283 ?_
    refine xt_iload (j := 4) dX11_solve_284 rfl ?_
    refine xt_iadd dX11_solve_286 ?_
    refine xt_aload_n (j := 0) dX11_solve_287 rfl rfl ?_
    refine xt_iload (j := 3) dX11_solve_288 rfl ?_
    refine xt_iload (j := 4) dX11_solve_290 rfl ?_
    refine xt_callV (h2 := h) (as := [.int x4, .int x5]) (st := [.int ((24 * (x4 - (700 * (mI M x0 84)))) + x5), .ref b4, .ref x0]) dX11_solve_292 (mlX11_783 rfl) rfl ho1.1 ⟨by rw [ho1.2]; rfl, by rw [ho1.2]; decide⟩ (by first | decide | (simp [Value.category]; done)) (Nat.le_refl _) H (fun r M5 HH hE => ?_)
    obtain ⟨r6, hr, H⟩ := HH hE
    subst hr
    have ho1 := ok_E ho1 hE
    show T _ _ _ _ [.int r6, .int ((24 * (x4 - (700 * (mI M x0 84)))) + x5), .ref b4, .ref x0] _ _
    refine xt_callV (h2 := h) (as := [.ref b4, .int ((24 * (x4 - (700 * (mI M x0 84)))) + x5), .int r6]) (st := []) dX11_solve_295 (mlX11_767 rfl) rfl ho1.1 ⟨by rw [ho1.2]; rfl, by rw [ho1.2]; decide⟩ (by first | decide | (simp [Value.category]; done)) (Nat.le_refl _) H (fun r M7 HH hE => ?_)
    obtain ⟨hr, H⟩ := HH hE
    subst hr
    have ho1 := ok_E ho1 hE
    show T _ _ _ _ [] _ _
    refine xt_iinc (j := 4) (v := x5 + 1) (lv' := [(5, .int (x5 + 1)), (0, .ref x0), (1, .int x1), (2, .int x2), (4, .int x4)]) dX11_solve_298 rfl (by rfl) (by decide) rfl ?_
    refine xt_goto (tgt := 251) dX11_solve_301 (by decide) ?_
    exact xt_sub (lv' := [(0, .ref x0), (1, .int x1), (2, .int x2), (4, .int x4), (5, .int (x5 + 1))]) [1, 2, 3, 4, 0] rfl H
def DX11_solve_199 (h : Nat) (x0 : Nat) (x1 : Int32) (x2 : Int32) (M : Mem) (Q : Option Value → Mem → Prop) : Prop :=
  ok M x0 13 ∧ ∃ b2 : Nat, mR M x0 76 = some b2 ∧ ok M b2 21 ∧ vp_in (mI M x0 84) (mL M b2) ∧ ((mAI M b2 (mI M x0 84 : Int32).toNatClampNeg) ≤ x2 → E h mdX11_signalsNow [.ref x0] M (fun r M4 => mE M M4 → r = none ∧ T (h + 1) mdX11_solve 185 [(0, .ref x0), (1, .int x1)] [] M4 Q)) ∧
  (¬ ((mAI M b2 (mI M x0 84 : Int32).toNatClampNeg) ≤ x2) → ∃ b5 : Nat, mR M x0 75 = some b5 ∧ ok M b5 21 ∧ vp_in ((1400 * (mI M x0 84)) + x2) (mL M b5) ∧ (¬ ((mAI M b5 ((1400 * (mI M x0 84)) + x2 : Int32).toNatClampNeg) &&& 1) = 0 → T (h + 1) mdX11_solve 251 [(0, .ref x0), (1, .int x1), (2, .int x2), (4, .int ((mAI M b5 ((1400 * (mI M x0 84)) + x2 : Int32).toNatClampNeg) >>> ((1 : Int32) &&& 31))), (5, .int 0)] [] M Q) ∧
  (((mAI M b5 ((1400 * (mI M x0 84)) + x2 : Int32).toNatClampNeg) &&& 1) = 0 → E h mdX11_enter [.ref x0, .int ((mAI M b5 ((1400 * (mI M x0 84)) + x2 : Int32).toNatClampNeg) >>> ((1 : Int32) &&& 31))] M (fun r M7 => mE M M7 → r = none ∧ DX11_solve_304 h x0 x1 x2 M7 Q)))
set_option maxRecDepth 20000 in
set_option maxHeartbeats 2000000 in
theorem VX11_solve_199 {h : Nat} {x0 : Nat} {x1 : Int32} {x2 : Int32} {M : Mem} {Q : Option Value → Mem → Prop} (H : DX11_solve_199 h x0 x1 x2 M Q) : T (h + 1) mdX11_solve 199 [(0, .ref x0), (1, .int x1), (2, .int x2)] [] M Q := by
  unfold DX11_solve_199 at H
  refine xt_iload_n (j := 2) dX11_solve_199 rfl rfl ?_
  refine xt_aload_n (j := 0) dX11_solve_200 rfl rfl ?_
  obtain ⟨ho1, H⟩ := H
  obtain ⟨b2, hb, H⟩ := H
  refine xt_getR dX11_solve_201 (flX11_204 rfl) ft_13_76 ho1.1 ho1.2 hb ?_
  refine xt_aload_n (j := 0) dX11_solve_204 rfl rfl ?_
  refine xt_getI dX11_solve_205 (flX11_742 rfl) ft_13_84 ho1.1 ho1.2 ?_
  obtain ⟨ho3, H⟩ := H
  obtain ⟨hi, H⟩ := H
  refine xt_iald dX11_solve_208 ho3.1 ho3.2 hi ?_
  refine xt_icmp_ge (tgt := 310) dX11_solve_209 (by decide) (fun hc => ?_) (fun hc => ?_)
  · have H := H.1 hc
    refine xt_aload_n (j := 0) dX11_solve_310 rfl rfl ?_
    refine xt_callV (h2 := h) (as := []) (st := []) dX11_solve_311 (mlX11_786 rfl) rfl ho1.1 ⟨by rw [ho1.2]; rfl, by rw [ho1.2]; decide⟩ (by first | decide | (simp [Value.category]; done)) (Nat.le_refl _) H (fun r M4 HH hE => ?_)
    obtain ⟨hr, H⟩ := HH hE
    subst hr
    have ho1 := ok_E ho1 hE
    show T _ _ _ _ [] _ _
    refine xt_goto (tgt := 185) dX11_solve_314 (by decide) ?_
    exact xt_sub (lv' := [(0, .ref x0), (1, .int x1)]) [0, 1] rfl H
  · have H := H.2 hc
    refine xt_aload_n (j := 0) dX11_solve_212 rfl rfl ?_
    obtain ⟨b5, hb, H⟩ := H
    refine xt_getR dX11_solve_213 (flX11_201 rfl) ft_13_75 ho1.1 ho1.2 hb ?_
    refine xt_sipush (v := 1400) dX11_solve_216 (by decide) ?_
    refine xt_aload_n (j := 0) dX11_solve_219 rfl rfl ?_
    refine xt_getI dX11_solve_220 (flX11_742 rfl) ft_13_84 ho1.1 ho1.2 ?_
    refine xt_imul dX11_solve_223 ?_
    refine xt_iload_n (j := 2) dX11_solve_224 rfl rfl ?_
    refine xt_iadd dX11_solve_225 ?_
    obtain ⟨ho6, H⟩ := H
    obtain ⟨hi, H⟩ := H
    refine xt_iald dX11_solve_226 ho6.1 ho6.2 hi ?_
    refine xt_istore_n (lv' := [(3, .int (mAI M b5 ((1400 * (mI M x0 84)) + x2 : Int32).toNatClampNeg)), (0, .ref x0), (1, .int x1), (2, .int x2)]) dX11_solve_227 rfl (by decide) rfl ?_
    refine xt_iload_n (j := 0) dX11_solve_228 rfl rfl ?_
    refine xt_iconst (v := 1) dX11_solve_229 (by decide) ?_
    refine xt_ishr dX11_solve_230 ?_
    refine xt_istore (lv' := [(4, .int ((mAI M b5 ((1400 * (mI M x0 84)) + x2 : Int32).toNatClampNeg) >>> ((1 : Int32) &&& 31))), (3, .int (mAI M b5 ((1400 * (mI M x0 84)) + x2 : Int32).toNatClampNeg)), (0, .ref x0), (1, .int x1), (2, .int x2)]) dX11_solve_231 (by decide) rfl ?_
    refine xt_iload_n (j := 1) dX11_solve_233 rfl rfl ?_
    refine xt_iconst (v := 1) dX11_solve_234 (by decide) ?_
    refine xt_iand dX11_solve_235 ?_
    refine xt_if_ne (tgt := 248) dX11_solve_236 (by decide) (fun hc => ?_) (fun hc => ?_)
    · have H := H.1 hc
      refine xt_iconst (v := 0) dX11_solve_248 (by decide) ?_
      refine xt_istore (lv' := [(5, .int 0), (4, .int ((mAI M b5 ((1400 * (mI M x0 84)) + x2 : Int32).toNatClampNeg) >>> ((1 : Int32) &&& 31))), (3, .int (mAI M b5 ((1400 * (mI M x0 84)) + x2 : Int32).toNatClampNeg)), (0, .ref x0), (1, .int x1), (2, .int x2)]) dX11_solve_249 (by decide) rfl ?_
      exact xt_sub (lv' := [(0, .ref x0), (1, .int x1), (2, .int x2), (4, .int ((mAI M b5 ((1400 * (mI M x0 84)) + x2 : Int32).toNatClampNeg) >>> ((1 : Int32) &&& 31))), (5, .int 0)]) [3, 4, 5, 1, 0] rfl H
    · have H := H.2 hc
      refine xt_aload_n (j := 2) dX11_solve_239 rfl rfl ?_
      refine xt_iload (j := 0) dX11_solve_240 rfl ?_
      refine xt_callV (h2 := h) (as := [.int ((mAI M b5 ((1400 * (mI M x0 84)) + x2 : Int32).toNatClampNeg) >>> ((1 : Int32) &&& 31))]) (st := []) dX11_solve_242 (mlX11_780 rfl) rfl ho1.1 ⟨by rw [ho1.2]; rfl, by rw [ho1.2]; decide⟩ (by first | decide | (simp [Value.category]; done)) (Nat.le_refl _) H (fun r M7 HH hE => ?_)
      obtain ⟨hr, H⟩ := HH hE
      subst hr
      have ho1 := ok_E ho1 hE
      show T _ _ _ _ [] _ _
      refine xt_goto (tgt := 304) dX11_solve_245 (by decide) ?_
      exact xt_sub [2, 3, 4] rfl (VX11_solve_304 H)
def DX11_solve_185 (h : Nat) (x0 : Nat) (x1 : Int32) (M : Mem) (Q : Option Value → Mem → Prop) : Prop :=
  ok M x0 13 ∧ ((mI M x0 83) = 0 → T (h + 1) mdX11_solve 321 [(0, .ref x0), (1, .int x1), (2, .int 1), (3, .int 0)] [] M Q) ∧
  (¬ ((mI M x0 83) = 0) → ((0 : Int32) = 0 ∨ (0 : Int32) = 1) ∧ ∀ M2 : Mem, M2 = wI M x0 83 0 →
  T (h + 1) mdX11_solve 199 [(0, .ref x0), (1, .int x1), (2, .int 0)] [] M2 Q)
set_option maxRecDepth 20000 in
set_option maxHeartbeats 2000000 in
theorem VX11_solve_185 {h : Nat} {x0 : Nat} {x1 : Int32} {M : Mem} {Q : Option Value → Mem → Prop} (H : DX11_solve_185 h x0 x1 M Q) : T (h + 1) mdX11_solve 185 [(0, .ref x0), (1, .int x1)] [] M Q := by
  unfold DX11_solve_185 at H
  refine xt_aload_n (j := 0) dX11_solve_185 rfl rfl ?_
  obtain ⟨ho1, H⟩ := H
  refine xt_getI dX11_solve_186 (flX11_745 rfl) ft_13_83 ho1.1 ho1.2 ?_
  refine xt_if_eq (tgt := 317) dX11_solve_189 (by decide) (fun hc => ?_) (fun hc => ?_)
  · have H := H.1 hc
    refine xt_iconst (v := 1) dX11_solve_317 (by decide) ?_
    refine xt_istore_n (lv' := [(2, .int 1), (0, .ref x0), (1, .int x1)]) dX11_solve_318 rfl (by decide) rfl ?_
    refine xt_iconst (v := 0) dX11_solve_319 (by decide) ?_
    refine xt_istore_n (lv' := [(3, .int 0), (2, .int 1), (0, .ref x0), (1, .int x1)]) dX11_solve_320 rfl (by decide) rfl ?_
    exact xt_sub (lv' := [(0, .ref x0), (1, .int x1), (2, .int 1), (3, .int 0)]) [2, 3, 1, 0] rfl H
  · have H := H.2 hc
    refine xt_aload_n (j := 0) dX11_solve_192 rfl rfl ?_
    refine xt_iconst (v := 0) dX11_solve_193 (by decide) ?_
    obtain ⟨hz, H⟩ := H
    obtain ⟨M2, eM2⟩ : ∃ z, z = wI M x0 83 0 := ⟨_, rfl⟩
    have H := H _ eM2
    refine xt_putZ dX11_solve_194 (flX11_745 rfl) ty_13_83 rfl ho1.1 ho1.2 hz ?_
    have ho1 : ok M2 x0 13 := by rw [eM2]; exact ho1
    rw [← eM2]
    refine xt_iconst (v := 0) dX11_solve_197 (by decide) ?_
    refine xt_istore_n (lv' := [(2, .int 0), (0, .ref x0), (1, .int x1)]) dX11_solve_198 rfl (by decide) rfl ?_
    exact xt_sub (lv' := [(0, .ref x0), (1, .int x1), (2, .int 0)]) [1, 2, 0] rfl H
def DX11_solve_135 (h : Nat) (x0 : Nat) (x1 : Int32) (x2 : Int32) (M : Mem) (Q : Option Value → Mem → Prop) : Prop :=
  ok M x0 13 ∧ ∃ b2 : Nat, mR M x0 9 = some b2 ∧ ok M b2 21 ∧ vp_in (mI M x0 84) (mL M b2) ∧ ((mAI M b2 (mI M x0 84 : Int32).toNatClampNeg) ≤ x2 → ((1 : Int32) = 0 ∨ (1 : Int32) = 1) ∧ ∀ M4 : Mem, M4 = wI M x0 83 1 →
  T (h + 1) mdX11_solve 185 [(0, .ref x0), (1, .int x1)] [] M4 Q) ∧
  (¬ ((mAI M b2 (mI M x0 84 : Int32).toNatClampNeg) ≤ x2) → ∃ b5 : Nat, mR M x0 82 = some b5 ∧ ∃ b6 : Nat, mR M x0 15 = some b6 ∧ ok M b6 21 ∧ vp_in ((4 * (mI M x0 84)) + x2) (mL M b6) ∧ ok M b5 21 ∧ vp_in (mAI M b6 ((4 * (mI M x0 84)) + x2 : Int32).toNatClampNeg) (mL M b5) ∧ ∀ M9 : Mem, M9 = wAI M b5 (mAI M b6 ((4 * (mI M x0 84)) + x2 : Int32).toNatClampNeg : Int32).toNatClampNeg (((mI M x0 87) >>> (x2 &&& 31)) &&& 1) →
  T (h + 1) mdX11_solve 135 [(0, .ref x0), (1, .int x1), (2, .int (x2 + 1))] [] M9 Q)
set_option maxRecDepth 20000 in
set_option maxHeartbeats 2000000 in
theorem VX11_solve_135 {h : Nat} {x0 : Nat} {x1 : Int32} {x2 : Int32} {M : Mem} {Q : Option Value → Mem → Prop} (H : DX11_solve_135 h x0 x1 x2 M Q) : T (h + 1) mdX11_solve 135 [(0, .ref x0), (1, .int x1), (2, .int x2)] [] M Q := by
  unfold DX11_solve_135 at H
  refine xt_iload_n (j := 2) dX11_solve_135 rfl rfl ?_
  refine xt_aload_n (j := 0) dX11_solve_136 rfl rfl ?_
  obtain ⟨ho1, H⟩ := H
  obtain ⟨b2, hb, H⟩ := H
  refine xt_getR dX11_solve_137 (flX11_26 rfl) ft_13_9 ho1.1 ho1.2 hb ?_
  refine xt_aload_n (j := 0) dX11_solve_140 rfl rfl ?_
  refine xt_getI dX11_solve_141 (flX11_742 rfl) ft_13_84 ho1.1 ho1.2 ?_
  obtain ⟨ho3, H⟩ := H
  obtain ⟨hi, H⟩ := H
  refine xt_iald dX11_solve_144 ho3.1 ho3.2 hi ?_
  refine xt_icmp_ge (tgt := 180) dX11_solve_145 (by decide) (fun hc => ?_) (fun hc => ?_)
  · have H := H.1 hc
    refine xt_aload_n (j := 0) dX11_solve_180 rfl rfl ?_
    refine xt_iconst (v := 1) dX11_solve_181 (by decide) ?_
    obtain ⟨hz, H⟩ := H
    obtain ⟨M4, eM4⟩ : ∃ z, z = wI M x0 83 1 := ⟨_, rfl⟩
    have H := H _ eM4
    refine xt_putZ dX11_solve_182 (flX11_745 rfl) ty_13_83 rfl ho1.1 ho1.2 hz ?_
    have ho1 : ok M4 x0 13 := by rw [eM4]; exact ho1
    rw [← eM4]
    exact xt_sub (lv' := [(0, .ref x0), (1, .int x1)]) [0, 1] rfl H
  · have H := H.2 hc
    refine xt_aload_n (j := 0) dX11_solve_148 rfl rfl ?_
    obtain ⟨b5, hb, H⟩ := H
    refine xt_getR dX11_solve_149 (flX11_222 rfl) ft_13_82 ho1.1 ho1.2 hb ?_
    refine xt_aload_n (j := 0) dX11_solve_152 rfl rfl ?_
    obtain ⟨b6, hb, H⟩ := H
    refine xt_getR dX11_solve_153 (flX11_45 rfl) ft_13_15 ho1.1 ho1.2 hb ?_
    refine xt_iconst (v := 4) dX11_solve_156 (by decide) ?_
    refine xt_aload_n (j := 0) dX11_solve_157 rfl rfl ?_
    refine xt_getI dX11_solve_158 (flX11_742 rfl) ft_13_84 ho1.1 ho1.2 ?_
    refine xt_imul dX11_solve_161 ?_
    refine xt_iload_n (j := 2) dX11_solve_162 rfl rfl ?_
    refine xt_iadd dX11_solve_163 ?_
    obtain ⟨ho7, H⟩ := H
    obtain ⟨hi, H⟩ := H
    refine xt_iald dX11_solve_164 ho7.1 ho7.2 hi ?_
    refine xt_aload_n (j := 0) dX11_solve_165 rfl rfl ?_
    refine xt_getI dX11_solve_166 (flX11_777 rfl) ft_13_87 ho1.1 ho1.2 ?_
    refine xt_iload_n (j := 2) dX11_solve_169 rfl rfl ?_
    refine xt_ishr dX11_solve_170 ?_
    refine xt_iconst (v := 1) dX11_solve_171 (by decide) ?_
    refine xt_iand dX11_solve_172 ?_
    obtain ⟨ho8, H⟩ := H
    obtain ⟨hi, H⟩ := H
    obtain ⟨M9, eM9⟩ : ∃ z, z = wAI M b5 (mAI M b6 ((4 * (mI M x0 84)) + x2 : Int32).toNatClampNeg : Int32).toNatClampNeg (((mI M x0 87) >>> (x2 &&& 31)) &&& 1) := ⟨_, rfl⟩
    have H := H _ eM9
    refine xt_iast dX11_solve_173 ho8.1 ho8.2 hi ?_
    have ho1 : ok M9 x0 13 := by rw [eM9]; exact ho1
    rw [← eM9]
    refine xt_iinc (j := 2) (v := x2 + 1) (lv' := [(2, .int (x2 + 1)), (0, .ref x0), (1, .int x1)]) dX11_solve_174 rfl (by rfl) (by decide) rfl ?_
    refine xt_goto (tgt := 135) dX11_solve_177 (by decide) ?_
    exact xt_sub (lv' := [(0, .ref x0), (1, .int x1), (2, .int (x2 + 1))]) [1, 2, 0] rfl H
def DX11_solve_126 (h : Nat) (x0 : Nat) (x1 : Int32) (x2 : Int32) (s0 : Nat) (s1 : Int32) (s2 : Int32) (M : Mem) (Q : Option Value → Mem → Prop) : Prop :=
  ok M s0 21 ∧ vp_in s1 (mL M s0) ∧ ∀ M2 : Mem, M2 = wAI M s0 (s1 : Int32).toNatClampNeg s2 →
  T (h + 1) mdX11_solve 86 [(0, .ref x0), (1, .int x1), (2, .int (x2 + 1))] [] M2 Q
set_option maxRecDepth 20000 in
set_option maxHeartbeats 2000000 in
theorem VX11_solve_126 {h : Nat} {x0 : Nat} {x1 : Int32} {x2 : Int32} {s0 : Nat} {s1 : Int32} {s2 : Int32} {M : Mem} {Q : Option Value → Mem → Prop} (H : DX11_solve_126 h x0 x1 x2 s0 s1 s2 M Q) : T (h + 1) mdX11_solve 126 [(0, .ref x0), (1, .int x1), (2, .int x2)] [.int s2, .int s1, .ref s0] M Q := by
  unfold DX11_solve_126 at H
  obtain ⟨ho1, H⟩ := H
  obtain ⟨hi, H⟩ := H
  obtain ⟨M2, eM2⟩ : ∃ z, z = wAI M s0 (s1 : Int32).toNatClampNeg s2 := ⟨_, rfl⟩
  have H := H _ eM2
  refine xt_iast dX11_solve_126 ho1.1 ho1.2 hi ?_
  rw [← eM2]
  refine xt_iinc (j := 2) (v := x2 + 1) (lv' := [(2, .int (x2 + 1)), (0, .ref x0), (1, .int x1)]) dX11_solve_127 rfl (by rfl) (by decide) rfl ?_
  refine xt_goto (tgt := 86) dX11_solve_130 (by decide) ?_
  exact xt_sub (lv' := [(0, .ref x0), (1, .int x1), (2, .int (x2 + 1))]) [1, 2, 0] rfl H
def DX11_solve_86 (h : Nat) (x0 : Nat) (x1 : Int32) (x2 : Int32) (M : Mem) (Q : Option Value → Mem → Prop) : Prop :=
  ok M x0 13 ∧ ∃ b2 : Nat, mR M x0 8 = some b2 ∧ ok M b2 21 ∧ vp_in (mI M x0 84) (mL M b2) ∧ ((mAI M b2 (mI M x0 84 : Int32).toNatClampNeg) ≤ x2 → T (h + 1) mdX11_solve 135 [(0, .ref x0), (1, .int x1), (2, .int 0)] [] M Q) ∧
  (¬ ((mAI M b2 (mI M x0 84 : Int32).toNatClampNeg) ≤ x2) → ∃ b4 : Nat, mR M x0 82 = some b4 ∧ ∃ b5 : Nat, mR M x0 12 = some b5 ∧ ok M b5 21 ∧ vp_in ((16 * (mI M x0 84)) + x2) (mL M b5) ∧ ((mAI M b5 ((16 * (mI M x0 84)) + x2 : Int32).toNatClampNeg) ≤ 0 → DX11_solve_126 h x0 x1 x2 b4 x2 0 M Q) ∧
  (¬ ((mAI M b5 ((16 * (mI M x0 84)) + x2 : Int32).toNatClampNeg) ≤ 0) → DX11_solve_126 h x0 x1 x2 b4 x2 2 M Q))
set_option maxRecDepth 20000 in
set_option maxHeartbeats 2000000 in
theorem VX11_solve_86 {h : Nat} {x0 : Nat} {x1 : Int32} {x2 : Int32} {M : Mem} {Q : Option Value → Mem → Prop} (H : DX11_solve_86 h x0 x1 x2 M Q) : T (h + 1) mdX11_solve 86 [(0, .ref x0), (1, .int x1), (2, .int x2)] [] M Q := by
  unfold DX11_solve_86 at H
  refine xt_iload_n (j := 2) dX11_solve_86 rfl rfl ?_
  refine xt_aload_n (j := 0) dX11_solve_87 rfl rfl ?_
  obtain ⟨ho1, H⟩ := H
  obtain ⟨b2, hb, H⟩ := H
  refine xt_getR dX11_solve_88 (flX11_23 rfl) ft_13_8 ho1.1 ho1.2 hb ?_
  refine xt_aload_n (j := 0) dX11_solve_91 rfl rfl ?_
  refine xt_getI dX11_solve_92 (flX11_742 rfl) ft_13_84 ho1.1 ho1.2 ?_
  obtain ⟨ho3, H⟩ := H
  obtain ⟨hi, H⟩ := H
  refine xt_iald dX11_solve_95 ho3.1 ho3.2 hi ?_
  refine xt_icmp_ge (tgt := 133) dX11_solve_96 (by decide) (fun hc => ?_) (fun hc => ?_)
  · have H := H.1 hc
    refine xt_iconst (v := 0) dX11_solve_133 (by decide) ?_
    refine xt_istore_n (lv' := [(2, .int 0), (0, .ref x0), (1, .int x1)]) dX11_solve_134 rfl (by decide) rfl ?_
    exact xt_sub (lv' := [(0, .ref x0), (1, .int x1), (2, .int 0)]) [1, 2, 0] rfl H
  · have H := H.2 hc
    refine xt_aload_n (j := 0) dX11_solve_99 rfl rfl ?_
    obtain ⟨b4, hb, H⟩ := H
    refine xt_getR dX11_solve_100 (flX11_222 rfl) ft_13_82 ho1.1 ho1.2 hb ?_
    refine xt_iload_n (j := 2) dX11_solve_103 rfl rfl ?_
    refine xt_aload_n (j := 0) dX11_solve_104 rfl rfl ?_
    obtain ⟨b5, hb, H⟩ := H
    refine xt_getR dX11_solve_105 (flX11_35 rfl) ft_13_12 ho1.1 ho1.2 hb ?_
    refine xt_bipush (v := 16) dX11_solve_108 (by decide) ?_
    refine xt_aload_n (j := 0) dX11_solve_110 rfl rfl ?_
    refine xt_getI dX11_solve_111 (flX11_742 rfl) ft_13_84 ho1.1 ho1.2 ?_
    refine xt_imul dX11_solve_114 ?_
    refine xt_iload_n (j := 2) dX11_solve_115 rfl rfl ?_
    refine xt_iadd dX11_solve_116 ?_
    obtain ⟨ho6, H⟩ := H
    obtain ⟨hi, H⟩ := H
    refine xt_iald dX11_solve_117 ho6.1 ho6.2 hi ?_
    refine xt_if_le (tgt := 125) dX11_solve_118 (by decide) (fun hc => ?_) (fun hc => ?_)
    · have H := H.1 hc
      refine xt_iconst (v := 0) dX11_solve_125 (by decide) ?_
      exact xt_sub [0, 1, 2] rfl (VX11_solve_126 H)
    · have H := H.2 hc
      refine xt_iconst (v := 2) dX11_solve_121 (by decide) ?_
      refine xt_goto (tgt := 126) dX11_solve_122 (by decide) ?_
      exact xt_sub [0, 1, 2] rfl (VX11_solve_126 H)
def DX11_solve_47 (h : Nat) (x0 : Nat) (x1 : Int32) (x2 : Int32) (x3 : Int32) (M : Mem) (Q : Option Value → Mem → Prop) : Prop :=
  ok M x0 13 ∧ ∃ b2 : Nat, mR M x0 74 = some b2 ∧ ok M b2 21 ∧ vp_in (mI M x0 84) (mL M b2) ∧ ((mAI M b2 (mI M x0 84 : Int32).toNatClampNeg) ≤ x3 → T (h + 1) mdX11_solve 12 [(0, .ref x0), (1, .int x1), (2, .int (x2 + 1))] [] M Q) ∧
  (¬ ((mAI M b2 (mI M x0 84 : Int32).toNatClampNeg) ≤ x3) → ∃ b4 : Nat, mR M x0 81 = some b4 ∧ ok M b4 21 ∧ vp_in ((24 * x2) + x3) (mL M b4) ∧ ∀ M6 : Mem, M6 = wAI M b4 ((24 * x2) + x3 : Int32).toNatClampNeg 2 →
  T (h + 1) mdX11_solve 47 [(0, .ref x0), (1, .int x1), (2, .int x2), (3, .int (x3 + 1))] [] M6 Q)
set_option maxRecDepth 20000 in
set_option maxHeartbeats 2000000 in
theorem VX11_solve_47 {h : Nat} {x0 : Nat} {x1 : Int32} {x2 : Int32} {x3 : Int32} {M : Mem} {Q : Option Value → Mem → Prop} (H : DX11_solve_47 h x0 x1 x2 x3 M Q) : T (h + 1) mdX11_solve 47 [(0, .ref x0), (1, .int x1), (2, .int x2), (3, .int x3)] [] M Q := by
  unfold DX11_solve_47 at H
  refine xt_iload_n (j := 3) dX11_solve_47 rfl rfl ?_
  refine xt_aload_n (j := 0) dX11_solve_48 rfl rfl ?_
  obtain ⟨ho1, H⟩ := H
  obtain ⟨b2, hb, H⟩ := H
  refine xt_getR dX11_solve_49 (flX11_198 rfl) ft_13_74 ho1.1 ho1.2 hb ?_
  refine xt_aload_n (j := 0) dX11_solve_52 rfl rfl ?_
  refine xt_getI dX11_solve_53 (flX11_742 rfl) ft_13_84 ho1.1 ho1.2 ?_
  obtain ⟨ho3, H⟩ := H
  obtain ⟨hi, H⟩ := H
  refine xt_iald dX11_solve_56 ho3.1 ho3.2 hi ?_
  refine xt_icmp_ge (tgt := 78) dX11_solve_57 (by decide) (fun hc => ?_) (fun hc => ?_)
  · have H := H.1 hc
    refine xt_iinc (j := 2) (v := x2 + 1) (lv' := [(2, .int (x2 + 1)), (0, .ref x0), (1, .int x1), (3, .int x3)]) dX11_solve_78 rfl (by rfl) (by decide) rfl ?_
    refine xt_goto (tgt := 12) dX11_solve_81 (by decide) ?_
    exact xt_sub (lv' := [(0, .ref x0), (1, .int x1), (2, .int (x2 + 1))]) [1, 2, 0] rfl H
  · have H := H.2 hc
    refine xt_aload_n (j := 0) dX11_solve_60 rfl rfl ?_
    obtain ⟨b4, hb, H⟩ := H
    refine xt_getR dX11_solve_61 (flX11_219 rfl) ft_13_81 ho1.1 ho1.2 hb ?_
    refine xt_bipush (v := 24) dX11_solve_64 (by decide) ?_
    refine xt_iload_n (j := 2) dX11_solve_66 rfl rfl ?_
    refine xt_imul dX11_solve_67 ?_
    refine xt_iload_n (j := 3) dX11_solve_68 rfl rfl ?_
    refine xt_iadd dX11_solve_69 ?_
    refine xt_iconst (v := 2) dX11_solve_70 (by decide) ?_
    obtain ⟨ho5, H⟩ := H
    obtain ⟨hi, H⟩ := H
    obtain ⟨M6, eM6⟩ : ∃ z, z = wAI M b4 ((24 * x2) + x3 : Int32).toNatClampNeg 2 := ⟨_, rfl⟩
    have H := H _ eM6
    refine xt_iast dX11_solve_71 ho5.1 ho5.2 hi ?_
    have ho1 : ok M6 x0 13 := by rw [eM6]; exact ho1
    rw [← eM6]
    refine xt_iinc (j := 3) (v := x3 + 1) (lv' := [(3, .int (x3 + 1)), (0, .ref x0), (1, .int x1), (2, .int x2)]) dX11_solve_72 rfl (by rfl) (by decide) rfl ?_
    refine xt_goto (tgt := 47) dX11_solve_75 (by decide) ?_
    exact xt_sub (lv' := [(0, .ref x0), (1, .int x1), (2, .int x2), (3, .int (x3 + 1))]) [1, 2, 3, 0] rfl H
def DX11_solve_12 (h : Nat) (x0 : Nat) (x1 : Int32) (x2 : Int32) (M : Mem) (Q : Option Value → Mem → Prop) : Prop :=
  (x1 ≤ x2 → T (h + 1) mdX11_solve 86 [(0, .ref x0), (1, .int x1), (2, .int 0)] [] M Q) ∧
  (¬ (x1 ≤ x2) → ok M x0 13 ∧ ∃ b2 : Nat, mR M x0 77 = some b2 ∧ ok M b2 21 ∧ vp_in x2 (mL M b2) ∧ ∀ M4 : Mem, M4 = wAI M b2 (x2 : Int32).toNatClampNeg 2 →
  ∃ b5 : Nat, mR M4 x0 78 = some b5 ∧ ok M4 b5 21 ∧ vp_in x2 (mL M4 b5) ∧ ∀ M7 : Mem, M7 = wAI M4 b5 (x2 : Int32).toNatClampNeg 2 →
  ∃ b8 : Nat, mR M7 x0 79 = some b8 ∧ ok M7 b8 21 ∧ vp_in x2 (mL M7 b8) ∧ ∀ M10 : Mem, M10 = wAI M7 b8 (x2 : Int32).toNatClampNeg 2 →
  ∃ b11 : Nat, mR M10 x0 80 = some b11 ∧ ok M10 b11 21 ∧ vp_in x2 (mL M10 b11) ∧ ∀ M13 : Mem, M13 = wAI M10 b11 (x2 : Int32).toNatClampNeg 2 →
  T (h + 1) mdX11_solve 47 [(0, .ref x0), (1, .int x1), (2, .int x2), (3, .int 0)] [] M13 Q)
set_option maxRecDepth 20000 in
set_option maxHeartbeats 2000000 in
theorem VX11_solve_12 {h : Nat} {x0 : Nat} {x1 : Int32} {x2 : Int32} {M : Mem} {Q : Option Value → Mem → Prop} (H : DX11_solve_12 h x0 x1 x2 M Q) : T (h + 1) mdX11_solve 12 [(0, .ref x0), (1, .int x1), (2, .int x2)] [] M Q := by
  unfold DX11_solve_12 at H
  refine xt_iload_n (j := 2) dX11_solve_12 rfl rfl ?_
  refine xt_iload_n (j := 1) dX11_solve_13 rfl rfl ?_
  refine xt_icmp_ge (tgt := 84) dX11_solve_14 (by decide) (fun hc => ?_) (fun hc => ?_)
  · have H := H.1 hc
    refine xt_iconst (v := 0) dX11_solve_84 (by decide) ?_
    refine xt_istore_n (lv' := [(2, .int 0), (0, .ref x0), (1, .int x1)]) dX11_solve_85 rfl (by decide) rfl ?_
    exact xt_sub (lv' := [(0, .ref x0), (1, .int x1), (2, .int 0)]) [1, 2, 0] rfl H
  · have H := H.2 hc
    refine xt_aload_n (j := 0) dX11_solve_17 rfl rfl ?_
    obtain ⟨ho1, H⟩ := H
    obtain ⟨b2, hb, H⟩ := H
    refine xt_getR dX11_solve_18 (flX11_207 rfl) ft_13_77 ho1.1 ho1.2 hb ?_
    refine xt_iload_n (j := 2) dX11_solve_21 rfl rfl ?_
    refine xt_iconst (v := 2) dX11_solve_22 (by decide) ?_
    obtain ⟨ho3, H⟩ := H
    obtain ⟨hi, H⟩ := H
    obtain ⟨M4, eM4⟩ : ∃ z, z = wAI M b2 (x2 : Int32).toNatClampNeg 2 := ⟨_, rfl⟩
    have H := H _ eM4
    refine xt_iast dX11_solve_23 ho3.1 ho3.2 hi ?_
    have ho1 : ok M4 x0 13 := by rw [eM4]; exact ho1
    rw [← eM4]
    refine xt_aload_n (j := 0) dX11_solve_24 rfl rfl ?_
    obtain ⟨b5, hb, H⟩ := H
    refine xt_getR dX11_solve_25 (flX11_210 rfl) ft_13_78 ho1.1 ho1.2 hb ?_
    refine xt_iload_n (j := 2) dX11_solve_28 rfl rfl ?_
    refine xt_iconst (v := 2) dX11_solve_29 (by decide) ?_
    obtain ⟨ho6, H⟩ := H
    obtain ⟨hi, H⟩ := H
    obtain ⟨M7, eM7⟩ : ∃ z, z = wAI M4 b5 (x2 : Int32).toNatClampNeg 2 := ⟨_, rfl⟩
    have H := H _ eM7
    refine xt_iast dX11_solve_30 ho6.1 ho6.2 hi ?_
    have ho1 : ok M7 x0 13 := by rw [eM7]; exact ho1
    rw [← eM7]
    refine xt_aload_n (j := 0) dX11_solve_31 rfl rfl ?_
    obtain ⟨b8, hb, H⟩ := H
    refine xt_getR dX11_solve_32 (flX11_213 rfl) ft_13_79 ho1.1 ho1.2 hb ?_
    refine xt_iload_n (j := 2) dX11_solve_35 rfl rfl ?_
    refine xt_iconst (v := 2) dX11_solve_36 (by decide) ?_
    obtain ⟨ho9, H⟩ := H
    obtain ⟨hi, H⟩ := H
    obtain ⟨M10, eM10⟩ : ∃ z, z = wAI M7 b8 (x2 : Int32).toNatClampNeg 2 := ⟨_, rfl⟩
    have H := H _ eM10
    refine xt_iast dX11_solve_37 ho9.1 ho9.2 hi ?_
    have ho1 : ok M10 x0 13 := by rw [eM10]; exact ho1
    rw [← eM10]
    refine xt_aload_n (j := 0) dX11_solve_38 rfl rfl ?_
    obtain ⟨b11, hb, H⟩ := H
    refine xt_getR dX11_solve_39 (flX11_216 rfl) ft_13_80 ho1.1 ho1.2 hb ?_
    refine xt_iload_n (j := 2) dX11_solve_42 rfl rfl ?_
    refine xt_iconst (v := 2) dX11_solve_43 (by decide) ?_
    obtain ⟨ho12, H⟩ := H
    obtain ⟨hi, H⟩ := H
    obtain ⟨M13, eM13⟩ : ∃ z, z = wAI M10 b11 (x2 : Int32).toNatClampNeg 2 := ⟨_, rfl⟩
    have H := H _ eM13
    refine xt_iast dX11_solve_44 ho12.1 ho12.2 hi ?_
    have ho1 : ok M13 x0 13 := by rw [eM13]; exact ho1
    rw [← eM13]
    refine xt_iconst (v := 0) dX11_solve_45 (by decide) ?_
    refine xt_istore_n (lv' := [(3, .int 0), (0, .ref x0), (1, .int x1), (2, .int x2)]) dX11_solve_46 rfl (by decide) rfl ?_
    exact xt_sub (lv' := [(0, .ref x0), (1, .int x1), (2, .int x2), (3, .int 0)]) [1, 2, 3, 0] rfl H
def DX11_solve_0 (h : Nat) (x0 : Nat) (M : Mem) (Q : Option Value → Mem → Prop) : Prop :=
  ok M x0 13 ∧ ∃ b2 : Nat, mR M x0 61 = some b2 ∧ ok M b2 21 ∧ vp_in (mI M x0 84) (mL M b2) ∧ T (h + 1) mdX11_solve 12 [(0, .ref x0), (1, .int (mAI M b2 (mI M x0 84 : Int32).toNatClampNeg)), (2, .int 0)] [] M Q
set_option maxRecDepth 20000 in
set_option maxHeartbeats 2000000 in
theorem VX11_solve_0 {h : Nat} {x0 : Nat} {M : Mem} {Q : Option Value → Mem → Prop} (H : DX11_solve_0 h x0 M Q) : T (h + 1) mdX11_solve 0 [(0, .ref x0)] [] M Q := by
  unfold DX11_solve_0 at H
  refine xt_aload_n (j := 0) dX11_solve_0 rfl rfl ?_
  obtain ⟨ho1, H⟩ := H
  obtain ⟨b2, hb, H⟩ := H
  refine xt_getR dX11_solve_1 (flX11_159 rfl) ft_13_61 ho1.1 ho1.2 hb ?_
  refine xt_aload_n (j := 0) dX11_solve_4 rfl rfl ?_
  refine xt_getI dX11_solve_5 (flX11_742 rfl) ft_13_84 ho1.1 ho1.2 ?_
  obtain ⟨ho3, H⟩ := H
  obtain ⟨hi, H⟩ := H
  refine xt_iald dX11_solve_8 ho3.1 ho3.2 hi ?_
  refine xt_istore_n (lv' := [(1, .int (mAI M b2 (mI M x0 84 : Int32).toNatClampNeg)), (0, .ref x0)]) dX11_solve_9 rfl (by decide) rfl ?_
  refine xt_iconst (v := 0) dX11_solve_10 (by decide) ?_
  refine xt_istore_n (lv' := [(2, .int 0), (1, .int (mAI M b2 (mI M x0 84 : Int32).toNatClampNeg)), (0, .ref x0)]) dX11_solve_11 rfl (by decide) rfl ?_
  exact xt_sub (lv' := [(0, .ref x0), (1, .int (mAI M b2 (mI M x0 84 : Int32).toNatClampNeg)), (2, .int 0)]) [2, 1, 0] rfl H
theorem KX11_solve {h : Nat} {x0 : Nat} {M : Mem} {Q : Option Value → Mem → Prop} (H : DX11_solve_0 h x0 M Q) : E (h + 1) mdX11_solve [.ref x0] M Q := E.of (by decide) (Nat.le_of_ble_eq_true rfl) (fun _ _ _ => trivial) (VX11_solve_0 H)
def DX11_presentNow_35 (h : Nat) (x0 : Nat) (x2 : Int32) (s0 : Int32) (s1 : Int32) (M : Mem) (Q : Option Value → Mem → Prop) : Prop :=
  T (h + 1) mdX11_presentNow 4 [(0, .ref x0), (1, .int (s0 ||| s1)), (2, .int (x2 + 1))] [] M Q
set_option maxRecDepth 20000 in
set_option maxHeartbeats 2000000 in
theorem VX11_presentNow_35 {h : Nat} {x0 : Nat} {x2 : Int32} {s0 : Int32} {s1 : Int32} {M : Mem} {Q : Option Value → Mem → Prop} (H : DX11_presentNow_35 h x0 x2 s0 s1 M Q) : T (h + 1) mdX11_presentNow 35 [(0, .ref x0), (2, .int x2)] [.int s1, .int s0] M Q := by
  unfold DX11_presentNow_35 at H
  refine xt_ior dX11_presentNow_35 ?_
  refine xt_istore_n (lv' := [(1, .int (s0 ||| s1)), (0, .ref x0), (2, .int x2)]) dX11_presentNow_36 rfl (by decide) rfl ?_
  refine xt_iinc (j := 2) (v := x2 + 1) (lv' := [(2, .int (x2 + 1)), (1, .int (s0 ||| s1)), (0, .ref x0)]) dX11_presentNow_37 rfl (by rfl) (by decide) rfl ?_
  refine xt_goto (tgt := 4) dX11_presentNow_40 (by decide) ?_
  exact xt_sub (lv' := [(0, .ref x0), (1, .int (s0 ||| s1)), (2, .int (x2 + 1))]) [2, 1, 0] rfl H
def DX11_presentNow_4 (h : Nat) (x0 : Nat) (x1 : Int32) (x2 : Int32) (M : Mem) (Q : Option Value → Mem → Prop) : Prop :=
  ok M x0 13 ∧ ∃ b2 : Nat, mR M x0 8 = some b2 ∧ ok M b2 21 ∧ vp_in (mI M x0 84) (mL M b2) ∧ ((mAI M b2 (mI M x0 84 : Int32).toNatClampNeg) ≤ x2 → Q (some (.int x1)) M) ∧
  (¬ ((mAI M b2 (mI M x0 84 : Int32).toNatClampNeg) ≤ x2) → ∃ b4 : Nat, mR M x0 82 = some b4 ∧ ok M b4 21 ∧ vp_in x2 (mL M b4) ∧ (¬ (mAI M b4 (x2 : Int32).toNatClampNeg) = 1 → DX11_presentNow_35 h x0 x2 x1 0 M Q) ∧
  ((mAI M b4 (x2 : Int32).toNatClampNeg) = 1 → DX11_presentNow_35 h x0 x2 x1 ((1 : Int32) <<< (x2 &&& 31)) M Q))
set_option maxRecDepth 20000 in
set_option maxHeartbeats 2000000 in
theorem VX11_presentNow_4 {h : Nat} {x0 : Nat} {x1 : Int32} {x2 : Int32} {M : Mem} {Q : Option Value → Mem → Prop} (H : DX11_presentNow_4 h x0 x1 x2 M Q) : T (h + 1) mdX11_presentNow 4 [(0, .ref x0), (1, .int x1), (2, .int x2)] [] M Q := by
  unfold DX11_presentNow_4 at H
  refine xt_iload_n (j := 2) dX11_presentNow_4 rfl rfl ?_
  refine xt_aload_n (j := 0) dX11_presentNow_5 rfl rfl ?_
  obtain ⟨ho1, H⟩ := H
  obtain ⟨b2, hb, H⟩ := H
  refine xt_getR dX11_presentNow_6 (flX11_23 rfl) ft_13_8 ho1.1 ho1.2 hb ?_
  refine xt_aload_n (j := 0) dX11_presentNow_9 rfl rfl ?_
  refine xt_getI dX11_presentNow_10 (flX11_742 rfl) ft_13_84 ho1.1 ho1.2 ?_
  obtain ⟨ho3, H⟩ := H
  obtain ⟨hi, H⟩ := H
  refine xt_iald dX11_presentNow_13 ho3.1 ho3.2 hi ?_
  refine xt_icmp_ge (tgt := 43) dX11_presentNow_14 (by decide) (fun hc => ?_) (fun hc => ?_)
  · have H := H.1 hc
    refine xt_iload_n (j := 1) dX11_presentNow_43 rfl rfl ?_
    exact xt_ireturn dX11_presentNow_44 rfl H
  · have H := H.2 hc
    refine xt_iload_n (j := 1) dX11_presentNow_17 rfl rfl ?_
    refine xt_aload_n (j := 0) dX11_presentNow_18 rfl rfl ?_
    obtain ⟨b4, hb, H⟩ := H
    refine xt_getR dX11_presentNow_19 (flX11_222 rfl) ft_13_82 ho1.1 ho1.2 hb ?_
    refine xt_iload_n (j := 2) dX11_presentNow_22 rfl rfl ?_
    obtain ⟨ho5, H⟩ := H
    obtain ⟨hi, H⟩ := H
    refine xt_iald dX11_presentNow_23 ho5.1 ho5.2 hi ?_
    refine xt_iconst (v := 1) dX11_presentNow_24 (by decide) ?_
    refine xt_icmp_ne (tgt := 34) dX11_presentNow_25 (by decide) (fun hc => ?_) (fun hc => ?_)
    · have H := H.1 hc
      refine xt_iconst (v := 0) dX11_presentNow_34 (by decide) ?_
      exact xt_sub [0, 2] rfl (VX11_presentNow_35 H)
    · have H := H.2 hc
      refine xt_iconst (v := 1) dX11_presentNow_28 (by decide) ?_
      refine xt_iload_n (j := 2) dX11_presentNow_29 rfl rfl ?_
      refine xt_ishl dX11_presentNow_30 ?_
      refine xt_goto (tgt := 35) dX11_presentNow_31 (by decide) ?_
      exact xt_sub [0, 2] rfl (VX11_presentNow_35 H)
def DX11_presentNow_0 (h : Nat) (x0 : Nat) (M : Mem) (Q : Option Value → Mem → Prop) : Prop :=
  T (h + 1) mdX11_presentNow 4 [(0, .ref x0), (1, .int 0), (2, .int 0)] [] M Q
set_option maxRecDepth 20000 in
set_option maxHeartbeats 2000000 in
theorem VX11_presentNow_0 {h : Nat} {x0 : Nat} {M : Mem} {Q : Option Value → Mem → Prop} (H : DX11_presentNow_0 h x0 M Q) : T (h + 1) mdX11_presentNow 0 [(0, .ref x0)] [] M Q := by
  unfold DX11_presentNow_0 at H
  refine xt_iconst (v := 0) dX11_presentNow_0 (by decide) ?_
  refine xt_istore_n (lv' := [(1, .int 0), (0, .ref x0)]) dX11_presentNow_1 rfl (by decide) rfl ?_
  refine xt_iconst (v := 0) dX11_presentNow_2 (by decide) ?_
  refine xt_istore_n (lv' := [(2, .int 0), (1, .int 0), (0, .ref x0)]) dX11_presentNow_3 rfl (by decide) rfl ?_
  exact xt_sub (lv' := [(0, .ref x0), (1, .int 0), (2, .int 0)]) [2, 1, 0] rfl H
theorem KX11_presentNow {h : Nat} {x0 : Nat} {M : Mem} {Q : Option Value → Mem → Prop} (H : DX11_presentNow_0 h x0 M Q) : E (h + 1) mdX11_presentNow [.ref x0] M Q := E.of (by decide) (Nat.le_of_ble_eq_true rfl) (fun _ _ _ => trivial) (VX11_presentNow_0 H)
def DX11_setNow_118 (h : Nat) (x0 : Nat) (x1 : Int32) (x2 : Int32) (M : Mem) (Q : Option Value → Mem → Prop) : Prop :=
  T (h + 1) mdX11_setNow 11 [(0, .ref x0), (1, .int x1), (2, .int (x2 + 1))] [] M Q
set_option maxRecDepth 20000 in
set_option maxHeartbeats 2000000 in
theorem VX11_setNow_118 {h : Nat} {x0 : Nat} {x1 : Int32} {x2 : Int32} {M : Mem} {Q : Option Value → Mem → Prop} (H : DX11_setNow_118 h x0 x1 x2 M Q) : T (h + 1) mdX11_setNow 118 [(0, .ref x0), (1, .int x1), (2, .int x2)] [] M Q := by
  unfold DX11_setNow_118 at H
  refine xt_iinc (j := 2) (v := x2 + 1) (lv' := [(2, .int (x2 + 1)), (0, .ref x0), (1, .int x1)]) dX11_setNow_118 rfl (by rfl) (by decide) rfl ?_
  refine xt_goto (tgt := 11) dX11_setNow_121 (by decide) ?_
  exact xt_sub (lv' := [(0, .ref x0), (1, .int x1), (2, .int (x2 + 1))]) [1, 2, 0] rfl H
def DX11_setNow_109 (h : Nat) (x0 : Nat) (x1 : Int32) (x2 : Int32) (M : Mem) (Q : Option Value → Mem → Prop) : Prop :=
  ok M x0 13 ∧ ∃ b2 : Nat, mR M x0 69 = some b2 ∧ ok M b2 21 ∧ vp_in x2 (mL M b2) ∧ DX11_setNow_118 h x0 (x1 ||| (mAI M b2 (x2 : Int32).toNatClampNeg)) x2 M Q
set_option maxRecDepth 20000 in
set_option maxHeartbeats 2000000 in
theorem VX11_setNow_109 {h : Nat} {x0 : Nat} {x1 : Int32} {x2 : Int32} {M : Mem} {Q : Option Value → Mem → Prop} (H : DX11_setNow_109 h x0 x1 x2 M Q) : T (h + 1) mdX11_setNow 109 [(0, .ref x0), (1, .int x1), (2, .int x2)] [] M Q := by
  unfold DX11_setNow_109 at H
  refine xt_iload_n (j := 1) dX11_setNow_109 rfl rfl ?_
  refine xt_aload_n (j := 0) dX11_setNow_110 rfl rfl ?_
  obtain ⟨ho1, H⟩ := H
  obtain ⟨b2, hb, H⟩ := H
  refine xt_getR dX11_setNow_111 (flX11_183 rfl) ft_13_69 ho1.1 ho1.2 hb ?_
  refine xt_iload_n (j := 2) dX11_setNow_114 rfl rfl ?_
  obtain ⟨ho3, H⟩ := H
  obtain ⟨hi, H⟩ := H
  refine xt_iald dX11_setNow_115 ho3.1 ho3.2 hi ?_
  refine xt_ior dX11_setNow_116 ?_
  refine xt_istore_n (lv' := [(1, .int (x1 ||| (mAI M b2 (x2 : Int32).toNatClampNeg))), (0, .ref x0), (2, .int x2)]) dX11_setNow_117 rfl (by decide) rfl ?_
  exact xt_sub [1, 0, 2] rfl (VX11_setNow_118 H)
def DX11_setNow_73 (h : Nat) (x0 : Nat) (x1 : Int32) (x2 : Int32) (x3 : Int32) (s0 : Int32) (M : Mem) (Q : Option Value → Mem → Prop) : Prop :=
  ok M x0 13 ∧ ∃ b2 : Nat, mR M x0 62 = some b2 ∧ ok M b2 21 ∧ vp_in x2 (mL M b2) ∧ (¬ (mAI M b2 (x2 : Int32).toNatClampNeg) = 2 → DX11_setNow_118 h x0 x1 x2 M Q) ∧
  ((mAI M b2 (x2 : Int32).toNatClampNeg) = 2 → ∃ b4 : Nat, mR M x0 80 = some b4 ∧ ok M b4 21 ∧ vp_in x3 (mL M b4) ∧ (¬ (mAI M b4 (x3 : Int32).toNatClampNeg) = 0 → DX11_setNow_118 h x0 x1 x2 M Q) ∧
  ((mAI M b4 (x3 : Int32).toNatClampNeg) = 0 → ∃ b6 : Nat, mR M x0 77 = some b6 ∧ ok M b6 21 ∧ vp_in x3 (mL M b6) ∧ ((mAI M b6 (x3 : Int32).toNatClampNeg) = 1 → DX11_setNow_109 h x0 x1 x2 M Q) ∧
  (¬ ((mAI M b6 (x3 : Int32).toNatClampNeg) = 1) → (s0 = 0 → DX11_setNow_118 h x0 x1 x2 M Q) ∧
  (¬ (s0 = 0) → DX11_setNow_109 h x0 x1 x2 M Q))))
set_option maxRecDepth 20000 in
set_option maxHeartbeats 2000000 in
theorem VX11_setNow_73 {h : Nat} {x0 : Nat} {x1 : Int32} {x2 : Int32} {x3 : Int32} {s0 : Int32} {M : Mem} {Q : Option Value → Mem → Prop} (H : DX11_setNow_73 h x0 x1 x2 x3 s0 M Q) : T (h + 1) mdX11_setNow 73 [(0, .ref x0), (1, .int x1), (2, .int x2), (3, .int x3)] [.int s0] M Q := by
  unfold DX11_setNow_73 at H
  refine xt_istore (lv' := [(4, .int s0), (0, .ref x0), (1, .int x1), (2, .int x2), (3, .int x3)]) dX11_setNow_73 (by decide) rfl ?_
  refine xt_aload_n (j := 1) dX11_setNow_75 rfl rfl ?_
  obtain ⟨ho1, H⟩ := H
  obtain ⟨b2, hb, H⟩ := H
  refine xt_getR dX11_setNow_76 (flX11_162 rfl) ft_13_62 ho1.1 ho1.2 hb ?_
  refine xt_iload_n (j := 3) dX11_setNow_79 rfl rfl ?_
  obtain ⟨ho3, H⟩ := H
  obtain ⟨hi, H⟩ := H
  refine xt_iald dX11_setNow_80 ho3.1 ho3.2 hi ?_
  refine xt_iconst (v := 2) dX11_setNow_81 (by decide) ?_
  refine xt_icmp_ne (tgt := 118) dX11_setNow_82 (by decide) (fun hc => ?_) (fun hc => ?_)
  · have H := H.1 hc
    exact xt_sub [1, 2, 3] rfl (VX11_setNow_118 H)
  · have H := H.2 hc
    refine xt_aload_n (j := 1) dX11_setNow_85 rfl rfl ?_
    obtain ⟨b4, hb, H⟩ := H
    refine xt_getR dX11_setNow_86 (flX11_216 rfl) ft_13_80 ho1.1 ho1.2 hb ?_
    refine xt_iload_n (j := 4) dX11_setNow_89 rfl rfl ?_
    obtain ⟨ho5, H⟩ := H
    obtain ⟨hi, H⟩ := H
    refine xt_iald dX11_setNow_90 ho5.1 ho5.2 hi ?_
    refine xt_if_ne (tgt := 118) dX11_setNow_91 (by decide) (fun hc => ?_) (fun hc => ?_)
    · have H := H.1 hc
      exact xt_sub [1, 2, 3] rfl (VX11_setNow_118 H)
    · have H := H.2 hc
      refine xt_aload_n (j := 1) dX11_setNow_94 rfl rfl ?_
      obtain ⟨b6, hb, H⟩ := H
      refine xt_getR dX11_setNow_95 (flX11_207 rfl) ft_13_77 ho1.1 ho1.2 hb ?_
      refine xt_iload_n (j := 4) dX11_setNow_98 rfl rfl ?_
      obtain ⟨ho7, H⟩ := H
      obtain ⟨hi, H⟩ := H
      refine xt_iald dX11_setNow_99 ho7.1 ho7.2 hi ?_
      refine xt_iconst (v := 1) dX11_setNow_100 (by decide) ?_
      refine xt_icmp_eq (tgt := 109) dX11_setNow_101 (by decide) (fun hc => ?_) (fun hc => ?_)
      · have H := H.1 hc
        exact xt_sub [1, 2, 3] rfl (VX11_setNow_109 H)
      · have H := H.2 hc
        refine xt_iload (j := 0) dX11_setNow_104 rfl ?_
        refine xt_if_eq (tgt := 118) dX11_setNow_106 (by decide) (fun hc => ?_) (fun hc => ?_)
        · have H := H.1 hc
          exact xt_sub [1, 2, 3] rfl (VX11_setNow_118 H)
        · have H := H.2 hc
          exact xt_sub [1, 2, 3] rfl (VX11_setNow_109 H)
def DX11_setNow_72 (h : Nat) (x0 : Nat) (x1 : Int32) (x2 : Int32) (x3 : Int32) (M : Mem) (Q : Option Value → Mem → Prop) : Prop :=
  DX11_setNow_73 h x0 x1 x2 x3 0 M Q
set_option maxRecDepth 20000 in
set_option maxHeartbeats 2000000 in
theorem VX11_setNow_72 {h : Nat} {x0 : Nat} {x1 : Int32} {x2 : Int32} {x3 : Int32} {M : Mem} {Q : Option Value → Mem → Prop} (H : DX11_setNow_72 h x0 x1 x2 x3 M Q) : T (h + 1) mdX11_setNow 72 [(0, .ref x0), (1, .int x1), (2, .int x2), (3, .int x3)] [] M Q := by
  unfold DX11_setNow_72 at H
  refine xt_iconst (v := 0) dX11_setNow_72 (by decide) ?_
  exact xt_sub [0, 1, 2, 3] rfl (VX11_setNow_73 H)
def DX11_setNow_11 (h : Nat) (x0 : Nat) (x1 : Int32) (x2 : Int32) (M : Mem) (Q : Option Value → Mem → Prop) : Prop :=
  ok M x0 13 ∧ ∃ b2 : Nat, mR M x0 61 = some b2 ∧ ok M b2 21 ∧ vp_in (mI M x0 84) (mL M b2) ∧ (((700 * (mI M x0 84)) + (mAI M b2 (mI M x0 84 : Int32).toNatClampNeg)) ≤ x2 → Q (some (.int x1)) M) ∧
  (¬ (((700 * (mI M x0 84)) + (mAI M b2 (mI M x0 84 : Int32).toNatClampNeg)) ≤ x2) → ∃ b4 : Nat, mR M x0 79 = some b4 ∧ ok M b4 21 ∧ vp_in (x2 - (700 * (mI M x0 84))) (mL M b4) ∧ (¬ (mAI M b4 (x2 - (700 * (mI M x0 84)) : Int32).toNatClampNeg) = 1 → DX11_setNow_72 h x0 x1 x2 (x2 - (700 * (mI M x0 84))) M Q) ∧
  ((mAI M b4 (x2 - (700 * (mI M x0 84)) : Int32).toNatClampNeg) = 1 → ∃ b6 : Nat, mR M x0 69 = some b6 ∧ ok M b6 21 ∧ vp_in x2 (mL M b6) ∧ (((mI M x0 85) &&& (mAI M b6 (x2 : Int32).toNatClampNeg)) = 0 → DX11_setNow_72 h x0 x1 x2 (x2 - (700 * (mI M x0 84))) M Q) ∧
  (¬ (((mI M x0 85) &&& (mAI M b6 (x2 : Int32).toNatClampNeg)) = 0) → DX11_setNow_73 h x0 x1 x2 (x2 - (700 * (mI M x0 84))) 1 M Q)))
set_option maxRecDepth 20000 in
set_option maxHeartbeats 2000000 in
theorem VX11_setNow_11 {h : Nat} {x0 : Nat} {x1 : Int32} {x2 : Int32} {M : Mem} {Q : Option Value → Mem → Prop} (H : DX11_setNow_11 h x0 x1 x2 M Q) : T (h + 1) mdX11_setNow 11 [(0, .ref x0), (1, .int x1), (2, .int x2)] [] M Q := by
  unfold DX11_setNow_11 at H
  refine xt_iload_n (j := 2) dX11_setNow_11 rfl rfl ?_
  refine xt_sipush (v := 700) dX11_setNow_12 (by decide) ?_
  refine xt_aload_n (j := 0) dX11_setNow_15 rfl rfl ?_
  obtain ⟨ho1, H⟩ := H
  refine xt_getI dX11_setNow_16 (flX11_742 rfl) ft_13_84 ho1.1 ho1.2 ?_
  refine xt_imul dX11_setNow_19 ?_
  refine xt_aload_n (j := 0) dX11_setNow_20 rfl rfl ?_
  obtain ⟨b2, hb, H⟩ := H
  refine xt_getR dX11_setNow_21 (flX11_159 rfl) ft_13_61 ho1.1 ho1.2 hb ?_
  refine xt_aload_n (j := 0) dX11_setNow_24 rfl rfl ?_
  refine xt_getI dX11_setNow_25 (flX11_742 rfl) ft_13_84 ho1.1 ho1.2 ?_
  obtain ⟨ho3, H⟩ := H
  obtain ⟨hi, H⟩ := H
  refine xt_iald dX11_setNow_28 ho3.1 ho3.2 hi ?_
  refine xt_iadd dX11_setNow_29 ?_
  refine xt_icmp_ge (tgt := 124) dX11_setNow_30 (by decide) (fun hc => ?_) (fun hc => ?_)
  · have H := H.1 hc
    refine xt_iload_n (j := 1) dX11_setNow_124 rfl rfl ?_
    exact xt_ireturn dX11_setNow_125 rfl H
  · have H := H.2 hc
    refine xt_iload_n (j := 2) dX11_setNow_33 rfl rfl ?_
    refine xt_sipush (v := 700) dX11_setNow_34 (by decide) ?_
    refine xt_aload_n (j := 0) dX11_setNow_37 rfl rfl ?_
    refine xt_getI dX11_setNow_38 (flX11_742 rfl) ft_13_84 ho1.1 ho1.2 ?_
    refine xt_imul dX11_setNow_41 ?_
    refine xt_isub dX11_setNow_42 ?_
    refine xt_istore_n (lv' := [(3, .int (x2 - (700 * (mI M x0 84)))), (0, .ref x0), (1, .int x1), (2, .int x2)]) dX11_setNow_43 rfl (by decide) rfl ?_
    refine xt_aload_n (j := 1) dX11_setNow_44 rfl rfl ?_
    obtain ⟨b4, hb, H⟩ := H
    refine xt_getR dX11_setNow_45 (flX11_213 rfl) ft_13_79 ho1.1 ho1.2 hb ?_
    refine xt_iload_n (j := 0) dX11_setNow_48 rfl rfl ?_
    obtain ⟨ho5, H⟩ := H
    obtain ⟨hi, H⟩ := H
    refine xt_iald dX11_setNow_49 ho5.1 ho5.2 hi ?_
    refine xt_iconst (v := 1) dX11_setNow_50 (by decide) ?_
    refine xt_icmp_ne (tgt := 72) dX11_setNow_51 (by decide) (fun hc => ?_) (fun hc => ?_)
    · have H := H.1 hc
      exact xt_sub [1, 2, 3, 0] rfl (VX11_setNow_72 H)
    · have H := H.2 hc
      refine xt_aload_n (j := 1) dX11_setNow_54 rfl rfl ?_
      refine xt_getI dX11_setNow_55 (flX11_764 rfl) ft_13_85 ho1.1 ho1.2 ?_
      refine xt_aload_n (j := 1) dX11_setNow_58 rfl rfl ?_
      obtain ⟨b6, hb, H⟩ := H
      refine xt_getR dX11_setNow_59 (flX11_183 rfl) ft_13_69 ho1.1 ho1.2 hb ?_
      refine xt_iload_n (j := 3) dX11_setNow_62 rfl rfl ?_
      obtain ⟨ho7, H⟩ := H
      obtain ⟨hi, H⟩ := H
      refine xt_iald dX11_setNow_63 ho7.1 ho7.2 hi ?_
      refine xt_iand dX11_setNow_64 ?_
      refine xt_if_eq (tgt := 72) dX11_setNow_65 (by decide) (fun hc => ?_) (fun hc => ?_)
      · have H := H.1 hc
        exact xt_sub [1, 2, 3, 0] rfl (VX11_setNow_72 H)
      · have H := H.2 hc
        refine xt_iconst (v := 1) dX11_setNow_68 (by decide) ?_
        refine xt_goto (tgt := 73) dX11_setNow_69 (by decide) ?_
        exact xt_sub [1, 2, 3, 0] rfl (VX11_setNow_73 H)
def DX11_setNow_0 (h : Nat) (x0 : Nat) (M : Mem) (Q : Option Value → Mem → Prop) : Prop :=
  ok M x0 13 ∧ T (h + 1) mdX11_setNow 11 [(0, .ref x0), (1, .int 0), (2, .int (700 * (mI M x0 84)))] [] M Q
set_option maxRecDepth 20000 in
set_option maxHeartbeats 2000000 in
theorem VX11_setNow_0 {h : Nat} {x0 : Nat} {M : Mem} {Q : Option Value → Mem → Prop} (H : DX11_setNow_0 h x0 M Q) : T (h + 1) mdX11_setNow 0 [(0, .ref x0)] [] M Q := by
  unfold DX11_setNow_0 at H
  refine xt_iconst (v := 0) dX11_setNow_0 (by decide) ?_
  refine xt_istore_n (lv' := [(1, .int 0), (0, .ref x0)]) dX11_setNow_1 rfl (by decide) rfl ?_
  refine xt_sipush (v := 700) dX11_setNow_2 (by decide) ?_
  refine xt_aload_n (j := 1) dX11_setNow_5 rfl rfl ?_
  obtain ⟨ho1, H⟩ := H
  refine xt_getI dX11_setNow_6 (flX11_742 rfl) ft_13_84 ho1.1 ho1.2 ?_
  refine xt_imul dX11_setNow_9 ?_
  refine xt_istore_n (lv' := [(2, .int (700 * (mI M x0 84))), (1, .int 0), (0, .ref x0)]) dX11_setNow_10 rfl (by decide) rfl ?_
  exact xt_sub (lv' := [(0, .ref x0), (1, .int 0), (2, .int (700 * (mI M x0 84)))]) [2, 1, 0] rfl H
theorem KX11_setNow {h : Nat} {x0 : Nat} {M : Mem} {Q : Option Value → Mem → Prop} (H : DX11_setNow_0 h x0 M Q) : E (h + 1) mdX11_setNow [.ref x0] M Q := E.of (by decide) (Nat.le_of_ble_eq_true rfl) (fun _ _ _ => trivial) (VX11_setNow_0 H)
def DX11_isGovernor_0 (h : Nat) (x0 : Nat) (x1 : Int32) (M : Mem) (Q : Option Value → Mem → Prop) : Prop :=
  ok M x0 13 ∧ E h mdX11_in [.long ((x1 : Int32).toInt64), .long 0, .long (((mI M x0 91) - 1 : Int32).toInt64)] M (fun r M2 => mE M M2 → ∃ r3 : Int32, r = some (.int r3) ∧ (r3 = 0 ∨ r3 = 1) ∧ Q (some (.int r3)) M2)
set_option maxRecDepth 20000 in
set_option maxHeartbeats 2000000 in
theorem VX11_isGovernor_0 {h : Nat} {x0 : Nat} {x1 : Int32} {M : Mem} {Q : Option Value → Mem → Prop} (H : DX11_isGovernor_0 h x0 x1 M Q) : T (h + 1) mdX11_isGovernor 0 [(0, .ref x0), (1, .int x1)] [] M Q := by
  unfold DX11_isGovernor_0 at H
  refine xt_iload_n (j := 1) dX11_isGovernor_0 rfl rfl ?_
  refine xt_i2l dX11_isGovernor_1 ?_
  refine xt_lconst (v := 0) dX11_isGovernor_2 (by decide) ?_
  refine xt_aload_n (j := 0) dX11_isGovernor_3 rfl rfl ?_
  obtain ⟨ho1, H⟩ := H
  refine xt_getI dX11_isGovernor_4 (flX11_789 rfl) ft_13_91 ho1.1 ho1.2 ?_
  refine xt_iconst (v := 1) dX11_isGovernor_7 (by decide) ?_
  refine xt_isub dX11_isGovernor_8 ?_
  refine xt_i2l dX11_isGovernor_9 ?_
  refine xt_callS (h2 := h) (as := [.long ((x1 : Int32).toInt64), .long 0, .long (((mI M x0 91) - 1 : Int32).toInt64)]) (st := []) dX11_isGovernor_10 (mlX11_332 rfl) rfl (by first | decide | (simp [Value.category]; done)) (Nat.le_refl _) H (fun r M2 HH hE => ?_)
  obtain ⟨r3, hr, H⟩ := HH hE
  subst hr
  have ho1 := ok_E ho1 hE
  show T _ _ _ _ [.int r3] _ _
  exact xt_zreturn dX11_isGovernor_13 rfl H.1 H.2
theorem KX11_isGovernor {h : Nat} {x0 : Nat} {x1 : Int32} {M : Mem} {Q : Option Value → Mem → Prop} (H : DX11_isGovernor_0 h x0 x1 M Q) : E (h + 1) mdX11_isGovernor [.ref x0, .int x1] M Q := E.of (by decide) (Nat.le_of_ble_eq_true rfl) (fun _ _ _ => trivial) (VX11_isGovernor_0 H)
def DX11_noAnswer_37 (h : Nat) (x0 : Nat) (x1 : Int32) (x2 : Int32) (M : Mem) (Q : Option Value → Mem → Prop) : Prop :=
  (200 ≤ x2 → Q none M) ∧
  (¬ (200 ≤ x2) → ok M x0 13 ∧ ∃ b2 : Nat, mR M x0 107 = some b2 ∧ ok M b2 21 ∧ vp_in ((200 * x1) + x2) (mL M b2) ∧ ∀ M4 : Mem, M4 = wAI M b2 ((200 * x1) + x2 : Int32).toNatClampNeg 0 →
  T (h + 1) mdX11_noAnswer 37 [(0, .ref x0), (1, .int x1), (2, .int (x2 + 1))] [] M4 Q)
set_option maxRecDepth 20000 in
set_option maxHeartbeats 2000000 in
theorem VX11_noAnswer_37 {h : Nat} {x0 : Nat} {x1 : Int32} {x2 : Int32} {M : Mem} {Q : Option Value → Mem → Prop} (H : DX11_noAnswer_37 h x0 x1 x2 M Q) : T (h + 1) mdX11_noAnswer 37 [(0, .ref x0), (1, .int x1), (2, .int x2)] [] M Q := by
  unfold DX11_noAnswer_37 at H
  refine xt_iload_n (j := 2) dX11_noAnswer_37 rfl rfl ?_
  refine xt_sipush (v := 200) dX11_noAnswer_38 (by decide) ?_
  refine xt_icmp_ge (tgt := 63) dX11_noAnswer_41 (by decide) (fun hc => ?_) (fun hc => ?_)
  · have H := H.1 hc
    exact xt_return dX11_noAnswer_63 rfl H
  · have H := H.2 hc
    refine xt_aload_n (j := 0) dX11_noAnswer_44 rfl rfl ?_
    obtain ⟨ho1, H⟩ := H
    obtain ⟨b2, hb, H⟩ := H
    refine xt_getR dX11_noAnswer_45 (flX11_273 rfl) ft_13_107 ho1.1 ho1.2 hb ?_
    refine xt_sipush (v := 200) dX11_noAnswer_48 (by decide) ?_
    refine xt_iload_n (j := 1) dX11_noAnswer_51 rfl rfl ?_
    refine xt_imul dX11_noAnswer_52 ?_
    refine xt_iload_n (j := 2) dX11_noAnswer_53 rfl rfl ?_
    refine xt_iadd dX11_noAnswer_54 ?_
    refine xt_iconst (v := 0) dX11_noAnswer_55 (by decide) ?_
    obtain ⟨ho3, H⟩ := H
    obtain ⟨hi, H⟩ := H
    obtain ⟨M4, eM4⟩ : ∃ z, z = wAI M b2 ((200 * x1) + x2 : Int32).toNatClampNeg 0 := ⟨_, rfl⟩
    have H := H _ eM4
    refine xt_iast dX11_noAnswer_56 ho3.1 ho3.2 hi ?_
    have ho1 : ok M4 x0 13 := by rw [eM4]; exact ho1
    rw [← eM4]
    refine xt_iinc (j := 2) (v := x2 + 1) (lv' := [(2, .int (x2 + 1)), (0, .ref x0), (1, .int x1)]) dX11_noAnswer_57 rfl (by rfl) (by decide) rfl ?_
    refine xt_goto (tgt := 37) dX11_noAnswer_60 (by decide) ?_
    exact xt_sub (lv' := [(0, .ref x0), (1, .int x1), (2, .int (x2 + 1))]) [1, 2, 0] rfl H
def DX11_noAnswer_0 (h : Nat) (x0 : Nat) (x1 : Int32) (M : Mem) (Q : Option Value → Mem → Prop) : Prop :=
  ok M x0 13 ∧ ∃ b2 : Nat, mR M x0 103 = some b2 ∧ ok M b2 21 ∧ vp_in x1 (mL M b2) ∧ ∀ M4 : Mem, M4 = wAI M b2 (x1 : Int32).toNatClampNeg (-1) →
  ∃ b5 : Nat, mR M4 x0 104 = some b5 ∧ ok M4 b5 21 ∧ vp_in x1 (mL M4 b5) ∧ ∀ M7 : Mem, M7 = wAI M4 b5 (x1 : Int32).toNatClampNeg 0 →
  ∃ b8 : Nat, mR M7 x0 105 = some b8 ∧ ok M7 b8 21 ∧ vp_in x1 (mL M7 b8) ∧ ∀ M10 : Mem, M10 = wAI M7 b8 (x1 : Int32).toNatClampNeg (-1) →
  ∃ b11 : Nat, mR M10 x0 106 = some b11 ∧ ok M10 b11 21 ∧ vp_in x1 (mL M10 b11) ∧ ∀ M13 : Mem, M13 = wAI M10 b11 (x1 : Int32).toNatClampNeg 0 →
  ∃ b14 : Nat, mR M13 x0 101 = some b14 ∧ ok M13 b14 21 ∧ vp_in x1 (mL M13 b14) ∧ ∀ M16 : Mem, M16 = wAI M13 b14 (x1 : Int32).toNatClampNeg 0 →
  T (h + 1) mdX11_noAnswer 37 [(0, .ref x0), (1, .int x1), (2, .int 0)] [] M16 Q
set_option maxRecDepth 20000 in
set_option maxHeartbeats 2000000 in
theorem VX11_noAnswer_0 {h : Nat} {x0 : Nat} {x1 : Int32} {M : Mem} {Q : Option Value → Mem → Prop} (H : DX11_noAnswer_0 h x0 x1 M Q) : T (h + 1) mdX11_noAnswer 0 [(0, .ref x0), (1, .int x1)] [] M Q := by
  unfold DX11_noAnswer_0 at H
  refine xt_aload_n (j := 0) dX11_noAnswer_0 rfl rfl ?_
  obtain ⟨ho1, H⟩ := H
  obtain ⟨b2, hb, H⟩ := H
  refine xt_getR dX11_noAnswer_1 (flX11_261 rfl) ft_13_103 ho1.1 ho1.2 hb ?_
  refine xt_iload_n (j := 1) dX11_noAnswer_4 rfl rfl ?_
  refine xt_iconst (v := -1) dX11_noAnswer_5 (by decide) ?_
  obtain ⟨ho3, H⟩ := H
  obtain ⟨hi, H⟩ := H
  obtain ⟨M4, eM4⟩ : ∃ z, z = wAI M b2 (x1 : Int32).toNatClampNeg (-1) := ⟨_, rfl⟩
  have H := H _ eM4
  refine xt_iast dX11_noAnswer_6 ho3.1 ho3.2 hi ?_
  have ho1 : ok M4 x0 13 := by rw [eM4]; exact ho1
  rw [← eM4]
  refine xt_aload_n (j := 0) dX11_noAnswer_7 rfl rfl ?_
  obtain ⟨b5, hb, H⟩ := H
  refine xt_getR dX11_noAnswer_8 (flX11_264 rfl) ft_13_104 ho1.1 ho1.2 hb ?_
  refine xt_iload_n (j := 1) dX11_noAnswer_11 rfl rfl ?_
  refine xt_iconst (v := 0) dX11_noAnswer_12 (by decide) ?_
  obtain ⟨ho6, H⟩ := H
  obtain ⟨hi, H⟩ := H
  obtain ⟨M7, eM7⟩ : ∃ z, z = wAI M4 b5 (x1 : Int32).toNatClampNeg 0 := ⟨_, rfl⟩
  have H := H _ eM7
  refine xt_iast dX11_noAnswer_13 ho6.1 ho6.2 hi ?_
  have ho1 : ok M7 x0 13 := by rw [eM7]; exact ho1
  rw [← eM7]
  refine xt_aload_n (j := 0) dX11_noAnswer_14 rfl rfl ?_
  obtain ⟨b8, hb, H⟩ := H
  refine xt_getR dX11_noAnswer_15 (flX11_267 rfl) ft_13_105 ho1.1 ho1.2 hb ?_
  refine xt_iload_n (j := 1) dX11_noAnswer_18 rfl rfl ?_
  refine xt_iconst (v := -1) dX11_noAnswer_19 (by decide) ?_
  obtain ⟨ho9, H⟩ := H
  obtain ⟨hi, H⟩ := H
  obtain ⟨M10, eM10⟩ : ∃ z, z = wAI M7 b8 (x1 : Int32).toNatClampNeg (-1) := ⟨_, rfl⟩
  have H := H _ eM10
  refine xt_iast dX11_noAnswer_20 ho9.1 ho9.2 hi ?_
  have ho1 : ok M10 x0 13 := by rw [eM10]; exact ho1
  rw [← eM10]
  refine xt_aload_n (j := 0) dX11_noAnswer_21 rfl rfl ?_
  obtain ⟨b11, hb, H⟩ := H
  refine xt_getR dX11_noAnswer_22 (flX11_270 rfl) ft_13_106 ho1.1 ho1.2 hb ?_
  refine xt_iload_n (j := 1) dX11_noAnswer_25 rfl rfl ?_
  refine xt_iconst (v := 0) dX11_noAnswer_26 (by decide) ?_
  obtain ⟨ho12, H⟩ := H
  obtain ⟨hi, H⟩ := H
  obtain ⟨M13, eM13⟩ : ∃ z, z = wAI M10 b11 (x1 : Int32).toNatClampNeg 0 := ⟨_, rfl⟩
  have H := H _ eM13
  refine xt_iast dX11_noAnswer_27 ho12.1 ho12.2 hi ?_
  have ho1 : ok M13 x0 13 := by rw [eM13]; exact ho1
  rw [← eM13]
  refine xt_aload_n (j := 0) dX11_noAnswer_28 rfl rfl ?_
  obtain ⟨b14, hb, H⟩ := H
  refine xt_getR dX11_noAnswer_29 (flX11_255 rfl) ft_13_101 ho1.1 ho1.2 hb ?_
  refine xt_iload_n (j := 1) dX11_noAnswer_32 rfl rfl ?_
  refine xt_iconst (v := 0) dX11_noAnswer_33 (by decide) ?_
  obtain ⟨ho15, H⟩ := H
  obtain ⟨hi, H⟩ := H
  obtain ⟨M16, eM16⟩ : ∃ z, z = wAI M13 b14 (x1 : Int32).toNatClampNeg 0 := ⟨_, rfl⟩
  have H := H _ eM16
  refine xt_iast dX11_noAnswer_34 ho15.1 ho15.2 hi ?_
  have ho1 : ok M16 x0 13 := by rw [eM16]; exact ho1
  rw [← eM16]
  refine xt_iconst (v := 0) dX11_noAnswer_35 (by decide) ?_
  refine xt_istore_n (lv' := [(2, .int 0), (0, .ref x0), (1, .int x1)]) dX11_noAnswer_36 rfl (by decide) rfl ?_
  exact xt_sub (lv' := [(0, .ref x0), (1, .int x1), (2, .int 0)]) [1, 2, 0] rfl H
theorem KX11_noAnswer {h : Nat} {x0 : Nat} {x1 : Int32} {M : Mem} {Q : Option Value → Mem → Prop} (H : DX11_noAnswer_0 h x0 x1 M Q) : E (h + 1) mdX11_noAnswer [.ref x0, .int x1] M Q := E.of (by decide) (Nat.le_of_ble_eq_true rfl) (fun _ _ _ => trivial) (VX11_noAnswer_0 H)
def DX11_governor_155 (h : Nat) (x0 : Nat) (x1 : Int32) (x2 : Int32) (x3 : Int32) (s0 : Nat) (s1 : Int32) (s2 : Int64) (M : Mem) (Q : Option Value → Mem → Prop) : Prop :=
  ok M s0 23 ∧ vp_in s1 (mL M s0) ∧ ∀ M2 : Mem, M2 = wAJ M s0 (s1 : Int32).toNatClampNeg s2 →
  T (h + 1) mdX11_governor 114 [(0, .ref x0), (1, .int x1), (2, .int x2), (3, .int (x3 + 1))] [] M2 Q
set_option maxRecDepth 20000 in
set_option maxHeartbeats 2000000 in
theorem VX11_governor_155 {h : Nat} {x0 : Nat} {x1 : Int32} {x2 : Int32} {x3 : Int32} {s0 : Nat} {s1 : Int32} {s2 : Int64} {M : Mem} {Q : Option Value → Mem → Prop} (H : DX11_governor_155 h x0 x1 x2 x3 s0 s1 s2 M Q) : T (h + 1) mdX11_governor 155 [(0, .ref x0), (1, .int x1), (2, .int x2), (3, .int x3)] [.long s2, .int s1, .ref s0] M Q := by
  unfold DX11_governor_155 at H
  obtain ⟨ho1, H⟩ := H
  obtain ⟨hi, H⟩ := H
  obtain ⟨M2, eM2⟩ : ∃ z, z = wAJ M s0 (s1 : Int32).toNatClampNeg s2 := ⟨_, rfl⟩
  have H := H _ eM2
  refine xt_last dX11_governor_155 ho1.1 ho1.2 hi ?_
  rw [← eM2]
  refine xt_iinc (j := 3) (v := x3 + 1) (lv' := [(3, .int (x3 + 1)), (0, .ref x0), (1, .int x1), (2, .int x2)]) dX11_governor_156 rfl (by rfl) (by decide) rfl ?_
  refine xt_goto (tgt := 114) dX11_governor_159 (by decide) ?_
  exact xt_sub (lv' := [(0, .ref x0), (1, .int x1), (2, .int x2), (3, .int (x3 + 1))]) [1, 2, 3, 0] rfl H
def DX11_governor_114 (h : Nat) (x0 : Nat) (x1 : Int32) (x2 : Int32) (x3 : Int32) (M : Mem) (Q : Option Value → Mem → Prop) : Prop :=
  (6 ≤ x3 → ok M x0 13 ∧ E h mdX11_noAnswer [.ref x0, .int x2] M (fun r M2 => mE M M2 → r = none ∧ Q (some (.int x2)) M2)) ∧
  (¬ (6 ≤ x3) → ok M x0 13 ∧ ∃ b4 : Nat, mR M x0 98 = some b4 ∧ ∃ b5 : Nat, mR M x0 10 = some b5 ∧ ok M b5 21 ∧ vp_in x1 (mL M b5) ∧ ((mAI M b5 (x1 : Int32).toNatClampNeg) ≤ x3 → DX11_governor_155 h x0 x1 x2 x3 b4 ((6 * x2) + x3) 0 M Q) ∧
  (¬ ((mAI M b5 (x1 : Int32).toNatClampNeg) ≤ x3) → ∃ b7 : Nat, mR M x0 17 = some b7 ∧ ok M b7 23 ∧ vp_in ((6 * x1) + x3) (mL M b7) ∧ DX11_governor_155 h x0 x1 x2 x3 b4 ((6 * x2) + x3) (mAJ M b7 ((6 * x1) + x3 : Int32).toNatClampNeg) M Q))
set_option maxRecDepth 20000 in
set_option maxHeartbeats 2000000 in
theorem VX11_governor_114 {h : Nat} {x0 : Nat} {x1 : Int32} {x2 : Int32} {x3 : Int32} {M : Mem} {Q : Option Value → Mem → Prop} (H : DX11_governor_114 h x0 x1 x2 x3 M Q) : T (h + 1) mdX11_governor 114 [(0, .ref x0), (1, .int x1), (2, .int x2), (3, .int x3)] [] M Q := by
  unfold DX11_governor_114 at H
  refine xt_iload_n (j := 3) dX11_governor_114 rfl rfl ?_
  refine xt_bipush (v := 6) dX11_governor_115 (by decide) ?_
  refine xt_icmp_ge (tgt := 162) dX11_governor_117 (by decide) (fun hc => ?_) (fun hc => ?_)
  · have H := H.1 hc
    refine xt_aload_n (j := 0) dX11_governor_162 rfl rfl ?_
    refine xt_iload_n (j := 2) dX11_governor_163 rfl rfl ?_
    obtain ⟨ho1, H⟩ := H
    refine xt_callV (h2 := h) (as := [.int x2]) (st := []) dX11_governor_164 (mlX11_792 rfl) rfl ho1.1 ⟨by rw [ho1.2]; rfl, by rw [ho1.2]; decide⟩ (by first | decide | (simp [Value.category]; done)) (Nat.le_refl _) H (fun r M2 HH hE => ?_)
    obtain ⟨hr, H⟩ := HH hE
    subst hr
    have ho1 := ok_E ho1 hE
    show T _ _ _ _ [] _ _
    refine xt_iload_n (j := 2) dX11_governor_167 rfl rfl ?_
    exact xt_ireturn dX11_governor_168 rfl H
  · have H := H.2 hc
    refine xt_aload_n (j := 0) dX11_governor_120 rfl rfl ?_
    obtain ⟨ho3, H⟩ := H
    obtain ⟨b4, hb, H⟩ := H
    refine xt_getR dX11_governor_121 (flX11_246 rfl) ft_13_98 ho3.1 ho3.2 hb ?_
    refine xt_bipush (v := 6) dX11_governor_124 (by decide) ?_
    refine xt_iload_n (j := 2) dX11_governor_126 rfl rfl ?_
    refine xt_imul dX11_governor_127 ?_
    refine xt_iload_n (j := 3) dX11_governor_128 rfl rfl ?_
    refine xt_iadd dX11_governor_129 ?_
    refine xt_iload_n (j := 3) dX11_governor_130 rfl rfl ?_
    refine xt_aload_n (j := 0) dX11_governor_131 rfl rfl ?_
    obtain ⟨b5, hb, H⟩ := H
    refine xt_getR dX11_governor_132 (flX11_29 rfl) ft_13_10 ho3.1 ho3.2 hb ?_
    refine xt_iload_n (j := 1) dX11_governor_135 rfl rfl ?_
    obtain ⟨ho6, H⟩ := H
    obtain ⟨hi, H⟩ := H
    refine xt_iald dX11_governor_136 ho6.1 ho6.2 hi ?_
    refine xt_icmp_ge (tgt := 154) dX11_governor_137 (by decide) (fun hc => ?_) (fun hc => ?_)
    · have H := H.1 hc
      refine xt_lconst (v := 0) dX11_governor_154 (by decide) ?_
      exact xt_sub [0, 1, 2, 3] rfl (VX11_governor_155 H)
    · have H := H.2 hc
      refine xt_aload_n (j := 0) dX11_governor_140 rfl rfl ?_
      obtain ⟨b7, hb, H⟩ := H
      refine xt_getR dX11_governor_141 (flX11_51 rfl) ft_13_17 ho3.1 ho3.2 hb ?_
      refine xt_bipush (v := 6) dX11_governor_144 (by decide) ?_
      refine xt_iload_n (j := 1) dX11_governor_146 rfl rfl ?_
      refine xt_imul dX11_governor_147 ?_
      refine xt_iload_n (j := 3) dX11_governor_148 rfl rfl ?_
      refine xt_iadd dX11_governor_149 ?_
      obtain ⟨ho8, H⟩ := H
      obtain ⟨hi, H⟩ := H
      refine xt_lald dX11_governor_150 ho8.1 ho8.2 hi ?_
      refine xt_goto (tgt := 155) dX11_governor_151 (by decide) ?_
      exact xt_sub [0, 1, 2, 3] rfl (VX11_governor_155 H)
def DX11_governor_88 (h : Nat) (x0 : Nat) (x1 : Int32) (x2 : Int32) (x3 : Int32) (M : Mem) (Q : Option Value → Mem → Prop) : Prop :=
  (16 ≤ x3 → T (h + 1) mdX11_governor 114 [(0, .ref x0), (1, .int x1), (2, .int x2), (3, .int 0)] [] M Q) ∧
  (¬ (16 ≤ x3) → ok M x0 13 ∧ ∃ b2 : Nat, mR M x0 97 = some b2 ∧ ok M b2 23 ∧ vp_in ((16 * x2) + x3) (mL M b2) ∧ ∀ M4 : Mem, M4 = wAJ M b2 ((16 * x2) + x3 : Int32).toNatClampNeg 0 →
  T (h + 1) mdX11_governor 88 [(0, .ref x0), (1, .int x1), (2, .int x2), (3, .int (x3 + 1))] [] M4 Q)
set_option maxRecDepth 20000 in
set_option maxHeartbeats 2000000 in
theorem VX11_governor_88 {h : Nat} {x0 : Nat} {x1 : Int32} {x2 : Int32} {x3 : Int32} {M : Mem} {Q : Option Value → Mem → Prop} (H : DX11_governor_88 h x0 x1 x2 x3 M Q) : T (h + 1) mdX11_governor 88 [(0, .ref x0), (1, .int x1), (2, .int x2), (3, .int x3)] [] M Q := by
  unfold DX11_governor_88 at H
  refine xt_iload_n (j := 3) dX11_governor_88 rfl rfl ?_
  refine xt_bipush (v := 16) dX11_governor_89 (by decide) ?_
  refine xt_icmp_ge (tgt := 112) dX11_governor_91 (by decide) (fun hc => ?_) (fun hc => ?_)
  · have H := H.1 hc
    refine xt_iconst (v := 0) dX11_governor_112 (by decide) ?_
    refine xt_istore_n (lv' := [(3, .int 0), (0, .ref x0), (1, .int x1), (2, .int x2)]) dX11_governor_113 rfl (by decide) rfl ?_
    exact xt_sub (lv' := [(0, .ref x0), (1, .int x1), (2, .int x2), (3, .int 0)]) [1, 2, 3, 0] rfl H
  · have H := H.2 hc
    refine xt_aload_n (j := 0) dX11_governor_94 rfl rfl ?_
    obtain ⟨ho1, H⟩ := H
    obtain ⟨b2, hb, H⟩ := H
    refine xt_getR dX11_governor_95 (flX11_243 rfl) ft_13_97 ho1.1 ho1.2 hb ?_
    refine xt_bipush (v := 16) dX11_governor_98 (by decide) ?_
    refine xt_iload_n (j := 2) dX11_governor_100 rfl rfl ?_
    refine xt_imul dX11_governor_101 ?_
    refine xt_iload_n (j := 3) dX11_governor_102 rfl rfl ?_
    refine xt_iadd dX11_governor_103 ?_
    refine xt_lconst (v := 0) dX11_governor_104 (by decide) ?_
    obtain ⟨ho3, H⟩ := H
    obtain ⟨hi, H⟩ := H
    obtain ⟨M4, eM4⟩ : ∃ z, z = wAJ M b2 ((16 * x2) + x3 : Int32).toNatClampNeg 0 := ⟨_, rfl⟩
    have H := H _ eM4
    refine xt_last dX11_governor_105 ho3.1 ho3.2 hi ?_
    have ho1 : ok M4 x0 13 := by rw [eM4]; exact ho1
    rw [← eM4]
    refine xt_iinc (j := 3) (v := x3 + 1) (lv' := [(3, .int (x3 + 1)), (0, .ref x0), (1, .int x1), (2, .int x2)]) dX11_governor_106 rfl (by rfl) (by decide) rfl ?_
    refine xt_goto (tgt := 88) dX11_governor_109 (by decide) ?_
    exact xt_sub (lv' := [(0, .ref x0), (1, .int x1), (2, .int x2), (3, .int (x3 + 1))]) [1, 2, 3, 0] rfl H
def DX11_governor_0 (h : Nat) (x0 : Nat) (x1 : Int32) (M : Mem) (Q : Option Value → Mem → Prop) : Prop :=
  ok M x0 13 ∧ E h mdX11_isModule [.ref x0, .int x1] M (fun r M2 => mE M M2 → ∃ r3 : Int32, r = some (.int r3) ∧ (¬ r3 = 0 → (¬ (mI M2 x0 91) = 8 → ∀ M4 : Mem, M4 = wI M2 x0 91 ((mI M2 x0 91) + 1) →
  ∃ b5 : Nat, mR M4 x0 92 = some b5 ∧ ok M4 b5 21 ∧ vp_in (mI M2 x0 91) (mL M4 b5) ∧ ∀ M7 : Mem, M7 = wAI M4 b5 (mI M2 x0 91 : Int32).toNatClampNeg x1 →
  ∃ b8 : Nat, mR M7 x0 93 = some b8 ∧ ok M7 b8 22 ∧ vp_in (mI M2 x0 91) (mL M7 b8) ∧ ∀ M10 : Mem, M10 = wAI M7 b8 (mI M2 x0 91 : Int32).toNatClampNeg (vp_nar .boolean 1) →
  ∃ b11 : Nat, mR M10 x0 94 = some b11 ∧ ok M10 b11 22 ∧ vp_in (mI M2 x0 91) (mL M10 b11) ∧ ∀ M13 : Mem, M13 = wAI M10 b11 (mI M2 x0 91 : Int32).toNatClampNeg (vp_nar .boolean 0) →
  ∃ b14 : Nat, mR M13 x0 95 = some b14 ∧ ok M13 b14 21 ∧ vp_in (mI M2 x0 91) (mL M13 b14) ∧ ∀ M16 : Mem, M16 = wAI M13 b14 (mI M2 x0 91 : Int32).toNatClampNeg 0 →
  ∃ b17 : Nat, mR M16 x0 96 = some b17 ∧ ok M16 b17 21 ∧ vp_in (mI M2 x0 91) (mL M16 b17) ∧ ∀ M19 : Mem, M19 = wAI M16 b17 (mI M2 x0 91 : Int32).toNatClampNeg 0 →
  ∃ b20 : Nat, mR M19 x0 99 = some b20 ∧ ok M19 b20 21 ∧ vp_in (mI M2 x0 91) (mL M19 b20) ∧ ∀ M22 : Mem, M22 = wAI M19 b20 (mI M2 x0 91 : Int32).toNatClampNeg 0 →
  ∃ b23 : Nat, mR M22 x0 100 = some b23 ∧ ok M22 b23 21 ∧ vp_in (mI M2 x0 91) (mL M22 b23) ∧ ∀ M25 : Mem, M25 = wAI M22 b23 (mI M2 x0 91 : Int32).toNatClampNeg 0 →
  T (h + 1) mdX11_governor 88 [(0, .ref x0), (1, .int x1), (2, .int (mI M2 x0 91)), (3, .int 0)] [] M25 Q) ∧
  ((mI M2 x0 91) = 8 → Q (some (.int (-3))) M2)) ∧
  (r3 = 0 → Q (some (.int (-1))) M2))
set_option maxRecDepth 20000 in
set_option maxHeartbeats 2000000 in
theorem VX11_governor_0 {h : Nat} {x0 : Nat} {x1 : Int32} {M : Mem} {Q : Option Value → Mem → Prop} (H : DX11_governor_0 h x0 x1 M Q) : T (h + 1) mdX11_governor 0 [(0, .ref x0), (1, .int x1)] [] M Q := by
  unfold DX11_governor_0 at H
  refine xt_aload_n (j := 0) dX11_governor_0 rfl rfl ?_
  refine xt_iload_n (j := 1) dX11_governor_1 rfl rfl ?_
  obtain ⟨ho1, H⟩ := H
  refine xt_callV (h2 := h) (as := [.int x1]) (st := []) dX11_governor_2 (mlX11_727 rfl) rfl ho1.1 ⟨by rw [ho1.2]; rfl, by rw [ho1.2]; decide⟩ (by first | decide | (simp [Value.category]; done)) (Nat.le_refl _) H (fun r M2 HH hE => ?_)
  obtain ⟨r3, hr, H⟩ := HH hE
  subst hr
  have ho1 := ok_E ho1 hE
  show T _ _ _ _ [.int r3] _ _
  refine xt_if_ne (tgt := 10) dX11_governor_5 (by decide) (fun hc => ?_) (fun hc => ?_)
  · have H := H.1 hc
    refine xt_aload_n (j := 0) dX11_governor_10 rfl rfl ?_
    refine xt_getI dX11_governor_11 (flX11_789 rfl) ft_13_91 ho1.1 ho1.2 ?_
    refine xt_bipush (v := 8) dX11_governor_14 (by decide) ?_
    refine xt_icmp_ne (tgt := 22) dX11_governor_16 (by decide) (fun hc => ?_) (fun hc => ?_)
    · have H := H.1 hc
      refine xt_aload_n (j := 0) dX11_governor_22 rfl rfl ?_
      refine xt_getI dX11_governor_23 (flX11_789 rfl) ft_13_91 ho1.1 ho1.2 ?_
      refine xt_istore_n (lv' := [(2, .int (mI M2 x0 91)), (0, .ref x0), (1, .int x1)]) dX11_governor_26 rfl (by decide) rfl ?_
      refine xt_aload_n (j := 1) dX11_governor_27 rfl rfl ?_
      refine xt_dup dX11_governor_28 rfl ?_
      refine xt_getI dX11_governor_29 (flX11_789 rfl) ft_13_91 ho1.1 ho1.2 ?_
      refine xt_iconst (v := 1) dX11_governor_32 (by decide) ?_
      refine xt_iadd dX11_governor_33 ?_
      obtain ⟨M4, eM4⟩ : ∃ z, z = wI M2 x0 91 ((mI M2 x0 91) + 1) := ⟨_, rfl⟩
      have H := H _ eM4
      refine xt_putI dX11_governor_34 (flX11_789 rfl) ty_13_91 rfl ho1.1 ho1.2 ?_
      have ho1 : ok M4 x0 13 := by rw [eM4]; exact ho1
      rw [← eM4]
      refine xt_aload_n (j := 1) dX11_governor_37 rfl rfl ?_
      obtain ⟨b5, hb, H⟩ := H
      refine xt_getR dX11_governor_38 (flX11_228 rfl) ft_13_92 ho1.1 ho1.2 hb ?_
      refine xt_iload_n (j := 0) dX11_governor_41 rfl rfl ?_
      refine xt_iload_n (j := 2) dX11_governor_42 rfl rfl ?_
      obtain ⟨ho6, H⟩ := H
      obtain ⟨hi, H⟩ := H
      obtain ⟨M7, eM7⟩ : ∃ z, z = wAI M4 b5 (mI M2 x0 91 : Int32).toNatClampNeg x1 := ⟨_, rfl⟩
      have H := H _ eM7
      refine xt_iast dX11_governor_43 ho6.1 ho6.2 hi ?_
      have ho1 : ok M7 x0 13 := by rw [eM7]; exact ho1
      rw [← eM7]
      refine xt_aload_n (j := 1) dX11_governor_44 rfl rfl ?_
      obtain ⟨b8, hb, H⟩ := H
      refine xt_getR dX11_governor_45 (flX11_231 rfl) ft_13_93 ho1.1 ho1.2 hb ?_
      refine xt_iload_n (j := 0) dX11_governor_48 rfl rfl ?_
      refine xt_iconst (v := 1) dX11_governor_49 (by decide) ?_
      obtain ⟨ho9, H⟩ := H
      obtain ⟨hi, H⟩ := H
      obtain ⟨M10, eM10⟩ : ∃ z, z = wAI M7 b8 (mI M2 x0 91 : Int32).toNatClampNeg (vp_nar .boolean 1) := ⟨_, rfl⟩
      have H := H _ eM10
      refine xt_zast dX11_governor_50 ho9.1 ho9.2 hi ?_
      have ho1 : ok M10 x0 13 := by rw [eM10]; exact ho1
      rw [← eM10]
      refine xt_aload_n (j := 1) dX11_governor_51 rfl rfl ?_
      obtain ⟨b11, hb, H⟩ := H
      refine xt_getR dX11_governor_52 (flX11_234 rfl) ft_13_94 ho1.1 ho1.2 hb ?_
      refine xt_iload_n (j := 0) dX11_governor_55 rfl rfl ?_
      refine xt_iconst (v := 0) dX11_governor_56 (by decide) ?_
      obtain ⟨ho12, H⟩ := H
      obtain ⟨hi, H⟩ := H
      obtain ⟨M13, eM13⟩ : ∃ z, z = wAI M10 b11 (mI M2 x0 91 : Int32).toNatClampNeg (vp_nar .boolean 0) := ⟨_, rfl⟩
      have H := H _ eM13
      refine xt_zast dX11_governor_57 ho12.1 ho12.2 hi ?_
      have ho1 : ok M13 x0 13 := by rw [eM13]; exact ho1
      rw [← eM13]
      refine xt_aload_n (j := 1) dX11_governor_58 rfl rfl ?_
      obtain ⟨b14, hb, H⟩ := H
      refine xt_getR dX11_governor_59 (flX11_237 rfl) ft_13_95 ho1.1 ho1.2 hb ?_
      refine xt_iload_n (j := 0) dX11_governor_62 rfl rfl ?_
      refine xt_iconst (v := 0) dX11_governor_63 (by decide) ?_
      obtain ⟨ho15, H⟩ := H
      obtain ⟨hi, H⟩ := H
      obtain ⟨M16, eM16⟩ : ∃ z, z = wAI M13 b14 (mI M2 x0 91 : Int32).toNatClampNeg 0 := ⟨_, rfl⟩
      have H := H _ eM16
      refine xt_iast dX11_governor_64 ho15.1 ho15.2 hi ?_
      have ho1 : ok M16 x0 13 := by rw [eM16]; exact ho1
      rw [← eM16]
      refine xt_aload_n (j := 1) dX11_governor_65 rfl rfl ?_
      obtain ⟨b17, hb, H⟩ := H
      refine xt_getR dX11_governor_66 (flX11_240 rfl) ft_13_96 ho1.1 ho1.2 hb ?_
      refine xt_iload_n (j := 0) dX11_governor_69 rfl rfl ?_
      refine xt_iconst (v := 0) dX11_governor_70 (by decide) ?_
      obtain ⟨ho18, H⟩ := H
      obtain ⟨hi, H⟩ := H
      obtain ⟨M19, eM19⟩ : ∃ z, z = wAI M16 b17 (mI M2 x0 91 : Int32).toNatClampNeg 0 := ⟨_, rfl⟩
      have H := H _ eM19
      refine xt_iast dX11_governor_71 ho18.1 ho18.2 hi ?_
      have ho1 : ok M19 x0 13 := by rw [eM19]; exact ho1
      rw [← eM19]
      refine xt_aload_n (j := 1) dX11_governor_72 rfl rfl ?_
      obtain ⟨b20, hb, H⟩ := H
      refine xt_getR dX11_governor_73 (flX11_249 rfl) ft_13_99 ho1.1 ho1.2 hb ?_
      refine xt_iload_n (j := 0) dX11_governor_76 rfl rfl ?_
      refine xt_iconst (v := 0) dX11_governor_77 (by decide) ?_
      obtain ⟨ho21, H⟩ := H
      obtain ⟨hi, H⟩ := H
      obtain ⟨M22, eM22⟩ : ∃ z, z = wAI M19 b20 (mI M2 x0 91 : Int32).toNatClampNeg 0 := ⟨_, rfl⟩
      have H := H _ eM22
      refine xt_iast dX11_governor_78 ho21.1 ho21.2 hi ?_
      have ho1 : ok M22 x0 13 := by rw [eM22]; exact ho1
      rw [← eM22]
      refine xt_aload_n (j := 1) dX11_governor_79 rfl rfl ?_
      obtain ⟨b23, hb, H⟩ := H
      refine xt_getR dX11_governor_80 (flX11_252 rfl) ft_13_100 ho1.1 ho1.2 hb ?_
      refine xt_iload_n (j := 0) dX11_governor_83 rfl rfl ?_
      refine xt_iconst (v := 0) dX11_governor_84 (by decide) ?_
      obtain ⟨ho24, H⟩ := H
      obtain ⟨hi, H⟩ := H
      obtain ⟨M25, eM25⟩ : ∃ z, z = wAI M22 b23 (mI M2 x0 91 : Int32).toNatClampNeg 0 := ⟨_, rfl⟩
      have H := H _ eM25
      refine xt_iast dX11_governor_85 ho24.1 ho24.2 hi ?_
      have ho1 : ok M25 x0 13 := by rw [eM25]; exact ho1
      rw [← eM25]
      refine xt_iconst (v := 0) dX11_governor_86 (by decide) ?_
      refine xt_istore_n (lv' := [(3, .int 0), (2, .int (mI M2 x0 91)), (0, .ref x0), (1, .int x1)]) dX11_governor_87 rfl (by decide) rfl ?_
      exact xt_sub (lv' := [(0, .ref x0), (1, .int x1), (2, .int (mI M2 x0 91)), (3, .int 0)]) [2, 3, 1, 0] rfl H
    · have H := H.2 hc
      refine xt_bipush (v := -3) dX11_governor_19 (by decide) ?_
      exact xt_ireturn dX11_governor_21 rfl H
  · have H := H.2 hc
    refine xt_iconst (v := -1) dX11_governor_8 (by decide) ?_
    exact xt_ireturn dX11_governor_9 rfl H
theorem KX11_governor {h : Nat} {x0 : Nat} {x1 : Int32} {M : Mem} {Q : Option Value → Mem → Prop} (H : DX11_governor_0 h x0 x1 M Q) : E (h + 1) mdX11_governor [.ref x0, .int x1] M Q := E.of (by decide) (Nat.le_of_ble_eq_true rfl) (fun _ _ _ => trivial) (VX11_governor_0 H)
def DX11_give_46 (h : Nat) (M : Mem) (Q : Option Value → Mem → Prop) : Prop :=
  Q (some (.int (-1))) M
set_option maxRecDepth 20000 in
set_option maxHeartbeats 2000000 in
theorem VX11_give_46 {h : Nat} {M : Mem} {Q : Option Value → Mem → Prop} (H : DX11_give_46 h  M Q) : T (h + 1) mdX11_give 46 [] [] M Q := by
  unfold DX11_give_46 at H
  refine xt_iconst (v := -1) dX11_give_46 (by decide) ?_
  exact xt_ireturn dX11_give_47 rfl H
def DX11_give_94 (h : Nat) (x0 : Nat) (x1 : Int32) (x2 : Int32) (x4 : Int32) (s0 : Nat) (s1 : Int32) (s2 : Int32) (M : Mem) (Q : Option Value → Mem → Prop) : Prop :=
  ok M s0 21 ∧ vp_in s1 (mL M s0) ∧ ∀ M2 : Mem, M2 = wAI M s0 (s1 : Int32).toNatClampNeg s2 →
  ok M2 x0 13 ∧ ∃ b4 : Nat, mR M2 x0 102 = some b4 ∧ ok M2 b4 23 ∧ vp_in ((4 * x1) + x2) (mL M2 b4) ∧ ∀ M6 : Mem, M6 = wAJ M2 b4 ((4 * x1) + x2 : Int32).toNatClampNeg ((x4 : Int32).toInt64) →
  Q (some (.int 1)) M6
set_option maxRecDepth 20000 in
set_option maxHeartbeats 2000000 in
theorem VX11_give_94 {h : Nat} {x0 : Nat} {x1 : Int32} {x2 : Int32} {x4 : Int32} {s0 : Nat} {s1 : Int32} {s2 : Int32} {M : Mem} {Q : Option Value → Mem → Prop} (H : DX11_give_94 h x0 x1 x2 x4 s0 s1 s2 M Q) : T (h + 1) mdX11_give 94 [(0, .ref x0), (1, .int x1), (2, .int x2), (4, .int x4)] [.int s2, .int s1, .ref s0] M Q := by
  unfold DX11_give_94 at H
  obtain ⟨ho1, H⟩ := H
  obtain ⟨hi, H⟩ := H
  obtain ⟨M2, eM2⟩ : ∃ z, z = wAI M s0 (s1 : Int32).toNatClampNeg s2 := ⟨_, rfl⟩
  have H := H _ eM2
  refine xt_iast dX11_give_94 ho1.1 ho1.2 hi ?_
  rw [← eM2]
  refine xt_aload_n (j := 0) dX11_give_95 rfl rfl ?_
  obtain ⟨ho3, H⟩ := H
  obtain ⟨b4, hb, H⟩ := H
  refine xt_getR dX11_give_96 (flX11_258 rfl) ft_13_102 ho3.1 ho3.2 hb ?_
  refine xt_iconst (v := 4) dX11_give_99 (by decide) ?_
  refine xt_iload_n (j := 1) dX11_give_100 rfl rfl ?_
  refine xt_imul dX11_give_101 ?_
  refine xt_iload_n (j := 2) dX11_give_102 rfl rfl ?_
  refine xt_iadd dX11_give_103 ?_
  refine xt_iload (j := 3) dX11_give_104 rfl ?_
  refine xt_i2l dX11_give_106 ?_
  obtain ⟨ho5, H⟩ := H
  obtain ⟨hi, H⟩ := H
  obtain ⟨M6, eM6⟩ : ∃ z, z = wAJ M2 b4 ((4 * x1) + x2 : Int32).toNatClampNeg ((x4 : Int32).toInt64) := ⟨_, rfl⟩
  have H := H _ eM6
  refine xt_last dX11_give_107 ho5.1 ho5.2 hi ?_
  have ho3 : ok M6 x0 13 := by rw [eM6]; exact ho3
  rw [← eM6]
  refine xt_iconst (v := 1) dX11_give_108 (by decide) ?_
  exact xt_ireturn dX11_give_109 rfl H
def DX11_give_0 (h : Nat) (x0 : Nat) (x1 : Int32) (x2 : Int32) (x3 : Int32) (x4 : Int32) (M : Mem) (Q : Option Value → Mem → Prop) : Prop :=
  ok M x0 13 ∧ E h mdX11_isGovernor [.ref x0, .int x1] M (fun r M2 => mE M M2 → ∃ r3 : Int32, r = some (.int r3) ∧ (r3 = 0 → DX11_give_46 h  M2 Q) ∧
  (¬ (r3 = 0) → ∃ b4 : Nat, mR M2 x0 9 = some b4 ∧ ∃ b5 : Nat, mR M2 x0 92 = some b5 ∧ ok M2 b5 21 ∧ vp_in x1 (mL M2 b5) ∧ ok M2 b4 21 ∧ vp_in (mAI M2 b5 (x1 : Int32).toNatClampNeg) (mL M2 b4) ∧ E h mdX11_in [.long ((x2 : Int32).toInt64), .long 0, .long (((mAI M2 b4 (mAI M2 b5 (x1 : Int32).toNatClampNeg : Int32).toNatClampNeg) - 1 : Int32).toInt64)] M2 (fun r M8 => mE M2 M8 → ∃ r9 : Int32, r = some (.int r9) ∧ (r9 = 0 → DX11_give_46 h  M8 Q) ∧
  (¬ (r9 = 0) → E h mdX11_in [.long ((x4 : Int32).toInt64), .long (-1000000000), .long 1000000000] M8 (fun r M10 => mE M8 M10 → ∃ r11 : Int32, r = some (.int r11) ∧ (¬ r11 = 0 → ∃ b12 : Nat, mR M10 x0 94 = some b12 ∧ ok M10 b12 22 ∧ vp_in x1 (mL M10 b12) ∧ ((mAI M10 b12 (x1 : Int32).toNatClampNeg) = 0 → ∃ b14 : Nat, mR M10 x0 101 = some b14 ∧ (x3 = 0 → ∃ b15 : Nat, mR M10 x0 101 = some b15 ∧ ok M10 b15 21 ∧ vp_in x1 (mL M10 b15) ∧ DX11_give_94 h x0 x1 x2 x4 b14 x1 ((mAI M10 b15 (x1 : Int32).toNatClampNeg) &&& (((1 : Int32) <<< (x2 &&& 31)) ^^^ (-1))) M10 Q) ∧
  (¬ (x3 = 0) → ∃ b17 : Nat, mR M10 x0 101 = some b17 ∧ ok M10 b17 21 ∧ vp_in x1 (mL M10 b17) ∧ DX11_give_94 h x0 x1 x2 x4 b14 x1 ((mAI M10 b17 (x1 : Int32).toNatClampNeg) ||| ((1 : Int32) <<< (x2 &&& 31))) M10 Q)) ∧
  (¬ ((mAI M10 b12 (x1 : Int32).toNatClampNeg) = 0) → Q (some (.int (-2))) M10)) ∧
  (r11 = 0 → DX11_give_46 h  M10 Q))))))
set_option maxRecDepth 20000 in
set_option maxHeartbeats 2000000 in
theorem VX11_give_0 {h : Nat} {x0 : Nat} {x1 : Int32} {x2 : Int32} {x3 : Int32} {x4 : Int32} {M : Mem} {Q : Option Value → Mem → Prop} (H : DX11_give_0 h x0 x1 x2 x3 x4 M Q) : T (h + 1) mdX11_give 0 [(0, .ref x0), (1, .int x1), (2, .int x2), (3, .int x3), (4, .int x4)] [] M Q := by
  unfold DX11_give_0 at H
  refine xt_aload_n (j := 0) dX11_give_0 rfl rfl ?_
  refine xt_iload_n (j := 1) dX11_give_1 rfl rfl ?_
  obtain ⟨ho1, H⟩ := H
  refine xt_callV (h2 := h) (as := [.int x1]) (st := []) dX11_give_2 (mlX11_795 rfl) rfl ho1.1 ⟨by rw [ho1.2]; rfl, by rw [ho1.2]; decide⟩ (by first | decide | (simp [Value.category]; done)) (Nat.le_refl _) H (fun r M2 HH hE => ?_)
  obtain ⟨r3, hr, H⟩ := HH hE
  subst hr
  have ho1 := ok_E ho1 hE
  show T _ _ _ _ [.int r3] _ _
  refine xt_if_eq (tgt := 46) dX11_give_5 (by decide) (fun hc => ?_) (fun hc => ?_)
  · have H := H.1 hc
    exact xt_sub [] rfl (VX11_give_46 H)
  · have H := H.2 hc
    refine xt_iload_n (j := 2) dX11_give_8 rfl rfl ?_
    refine xt_i2l dX11_give_9 ?_
    refine xt_lconst (v := 0) dX11_give_10 (by decide) ?_
    refine xt_aload_n (j := 0) dX11_give_11 rfl rfl ?_
    obtain ⟨b4, hb, H⟩ := H
    refine xt_getR dX11_give_12 (flX11_26 rfl) ft_13_9 ho1.1 ho1.2 hb ?_
    refine xt_aload_n (j := 0) dX11_give_15 rfl rfl ?_
    obtain ⟨b5, hb, H⟩ := H
    refine xt_getR dX11_give_16 (flX11_228 rfl) ft_13_92 ho1.1 ho1.2 hb ?_
    refine xt_iload_n (j := 1) dX11_give_19 rfl rfl ?_
    obtain ⟨ho6, H⟩ := H
    obtain ⟨hi, H⟩ := H
    refine xt_iald dX11_give_20 ho6.1 ho6.2 hi ?_
    obtain ⟨ho7, H⟩ := H
    obtain ⟨hi, H⟩ := H
    refine xt_iald dX11_give_21 ho7.1 ho7.2 hi ?_
    refine xt_iconst (v := 1) dX11_give_22 (by decide) ?_
    refine xt_isub dX11_give_23 ?_
    refine xt_i2l dX11_give_24 ?_
    refine xt_callS (h2 := h) (as := [.long ((x2 : Int32).toInt64), .long 0, .long (((mAI M2 b4 (mAI M2 b5 (x1 : Int32).toNatClampNeg : Int32).toNatClampNeg) - 1 : Int32).toInt64)]) (st := []) dX11_give_25 (mlX11_332 rfl) rfl (by first | decide | (simp [Value.category]; done)) (Nat.le_refl _) H (fun r M8 HH hE => ?_)
    obtain ⟨r9, hr, H⟩ := HH hE
    subst hr
    have ho1 := ok_E ho1 hE
    show T _ _ _ _ [.int r9] _ _
    refine xt_if_eq (tgt := 46) dX11_give_28 (by decide) (fun hc => ?_) (fun hc => ?_)
    · have H := H.1 hc
      exact xt_sub [] rfl (VX11_give_46 H)
    · have H := H.2 hc
      refine xt_iload (j := 4) dX11_give_31 rfl ?_
      refine xt_i2l dX11_give_33 ?_
      refine xt_ldc2 (v := -1000000000) dX11_give_34 (ctX11_798 rfl) ?_
      refine xt_ldc2 (v := 1000000000) dX11_give_37 (ctX11_800 rfl) ?_
      refine xt_callS (h2 := h) (as := [.long ((x4 : Int32).toInt64), .long (-1000000000), .long 1000000000]) (st := []) dX11_give_40 (mlX11_332 rfl) rfl (by first | decide | (simp [Value.category]; done)) (Nat.le_refl _) H (fun r M10 HH hE => ?_)
      obtain ⟨r11, hr, H⟩ := HH hE
      subst hr
      have ho1 := ok_E ho1 hE
      show T _ _ _ _ [.int r11] _ _
      refine xt_if_ne (tgt := 48) dX11_give_43 (by decide) (fun hc => ?_) (fun hc => ?_)
      · have H := H.1 hc
        refine xt_aload_n (j := 0) dX11_give_48 rfl rfl ?_
        obtain ⟨b12, hb, H⟩ := H
        refine xt_getR dX11_give_49 (flX11_234 rfl) ft_13_94 ho1.1 ho1.2 hb ?_
        refine xt_iload_n (j := 1) dX11_give_52 rfl rfl ?_
        obtain ⟨ho13, H⟩ := H
        obtain ⟨hi, H⟩ := H
        refine xt_zald dX11_give_53 ho13.1 ho13.2 hi ?_
        refine xt_if_eq (tgt := 60) dX11_give_54 (by decide) (fun hc => ?_) (fun hc => ?_)
        · have H := H.1 hc
          refine xt_aload_n (j := 0) dX11_give_60 rfl rfl ?_
          obtain ⟨b14, hb, H⟩ := H
          refine xt_getR dX11_give_61 (flX11_255 rfl) ft_13_101 ho1.1 ho1.2 hb ?_
          refine xt_iload_n (j := 1) dX11_give_64 rfl rfl ?_
          refine xt_iload_n (j := 3) dX11_give_65 rfl rfl ?_
          refine xt_if_eq (tgt := 82) dX11_give_66 (by decide) (fun hc => ?_) (fun hc => ?_)
          · have H := H.1 hc
            refine xt_aload_n (j := 0) dX11_give_82 rfl rfl ?_
            obtain ⟨b15, hb, H⟩ := H
            refine xt_getR dX11_give_83 (flX11_255 rfl) ft_13_101 ho1.1 ho1.2 hb ?_
            refine xt_iload_n (j := 1) dX11_give_86 rfl rfl ?_
            obtain ⟨ho16, H⟩ := H
            obtain ⟨hi, H⟩ := H
            refine xt_iald dX11_give_87 ho16.1 ho16.2 hi ?_
            refine xt_iconst (v := 1) dX11_give_88 (by decide) ?_
            refine xt_iload_n (j := 2) dX11_give_89 rfl rfl ?_
            refine xt_ishl dX11_give_90 ?_
            refine xt_iconst (v := -1) dX11_give_91 (by decide) ?_
            refine xt_ixor dX11_give_92 ?_
            refine xt_iand dX11_give_93 ?_
            exact xt_sub [0, 1, 2, 4] rfl (VX11_give_94 H)
          · have H := H.2 hc
            refine xt_aload_n (j := 0) dX11_give_69 rfl rfl ?_
            obtain ⟨b17, hb, H⟩ := H
            refine xt_getR dX11_give_70 (flX11_255 rfl) ft_13_101 ho1.1 ho1.2 hb ?_
            refine xt_iload_n (j := 1) dX11_give_73 rfl rfl ?_
            obtain ⟨ho18, H⟩ := H
            obtain ⟨hi, H⟩ := H
            refine xt_iald dX11_give_74 ho18.1 ho18.2 hi ?_
            refine xt_iconst (v := 1) dX11_give_75 (by decide) ?_
            refine xt_iload_n (j := 2) dX11_give_76 rfl rfl ?_
            refine xt_ishl dX11_give_77 ?_
            refine xt_ior dX11_give_78 ?_
            refine xt_goto (tgt := 94) dX11_give_79 (by decide) ?_
            exact xt_sub [0, 1, 2, 4] rfl (VX11_give_94 H)
        · have H := H.2 hc
          refine xt_bipush (v := -2) dX11_give_57 (by decide) ?_
          exact xt_ireturn dX11_give_59 rfl H
      · have H := H.2 hc
        exact xt_sub [] rfl (VX11_give_46 H)
theorem KX11_give {h : Nat} {x0 : Nat} {x1 : Int32} {x2 : Int32} {x3 : Int32} {x4 : Int32} {M : Mem} {Q : Option Value → Mem → Prop} (H : DX11_give_0 h x0 x1 x2 x3 x4 M Q) : E (h + 1) mdX11_give [.ref x0, .int x1, .int x2, .int x3, .int x4] M Q := E.of (by decide) (Nat.le_of_ble_eq_true rfl) (fun _ _ _ => trivial) (VX11_give_0 H)
def DX11_workedNode_171 (h : Nat) (s0 : Int64) (M : Mem) (Q : Option Value → Mem → Prop) : Prop :=
  Q (some (.long s0)) M
set_option maxRecDepth 20000 in
set_option maxHeartbeats 2000000 in
theorem VX11_workedNode_171 {h : Nat} {s0 : Int64} {M : Mem} {Q : Option Value → Mem → Prop} (H : DX11_workedNode_171 h s0 M Q) : T (h + 1) mdX11_workedNode 171 [] [.long s0] M Q := by
  unfold DX11_workedNode_171 at H
  exact xt_lreturn dX11_workedNode_171 rfl H
def DX11_workedNode_57 (h : Nat) (x0 : Nat) (x1 : Int32) (x2 : Int64) (s0 : Int64) (M : Mem) (Q : Option Value → Mem → Prop) : Prop :=
  ok M x0 13 ∧ ∃ b2 : Nat, mR M x0 25 = some b2 ∧ ok M b2 21 ∧ vp_in x1 (mL M b2) ∧ ((mAI M b2 (x1 : Int32).toNatClampNeg) = 1 → ∃ b4 : Nat, mR M x0 110 = some b4 ∧ ok M b4 23 ∧ vp_in ((x2 : Int64).toInt32) (mL M b4) ∧ Q (some (.long (mAJ M b4 ((x2 : Int64).toInt32 : Int32).toNatClampNeg))) M) ∧
  ((mAI M b2 (x1 : Int32).toNatClampNeg) = 2 → ∃ b6 : Nat, mR M x0 109 = some b6 ∧ ok M b6 23 ∧ vp_in ((x2 : Int64).toInt32) (mL M b6) ∧ Q (some (.long (mAJ M b6 ((x2 : Int64).toInt32 : Int32).toNatClampNeg))) M) ∧
  ((mAI M b2 (x1 : Int32).toNatClampNeg) = 3 → Q (some (.long (-x2))) M) ∧
  ((mAI M b2 (x1 : Int32).toNatClampNeg) = 4 → Q (some (.long (x2 * s0))) M) ∧
  ((mAI M b2 (x1 : Int32).toNatClampNeg) = 5 → (¬ (lg_cmp s0 0) = 0 → ∃ b8 : Nat, mR M x0 25 = some b8 ∧ ok M b8 21 ∧ vp_in x1 (mL M b8) ∧ (¬ (mAI M b8 (x1 : Int32).toNatClampNeg) = 5 → ¬ (s0 : Int64) = 0 ∧ DX11_workedNode_171 h (x2 - x2 / s0 * s0) M Q) ∧
  ((mAI M b8 (x1 : Int32).toNatClampNeg) = 5 → ¬ (s0 : Int64) = 0 ∧ DX11_workedNode_171 h (x2 / s0) M Q)) ∧
  ((lg_cmp s0 0) = 0 → ∀ M10 : Mem, M10 = wI M x0 111 1 →
  Q (some (.long 0)) M10)) ∧
  ((mAI M b2 (x1 : Int32).toNatClampNeg) = 6 → (¬ (lg_cmp s0 0) = 0 → ∃ b11 : Nat, mR M x0 25 = some b11 ∧ ok M b11 21 ∧ vp_in x1 (mL M b11) ∧ (¬ (mAI M b11 (x1 : Int32).toNatClampNeg) = 5 → ¬ (s0 : Int64) = 0 ∧ DX11_workedNode_171 h (x2 - x2 / s0 * s0) M Q) ∧
  ((mAI M b11 (x1 : Int32).toNatClampNeg) = 5 → ¬ (s0 : Int64) = 0 ∧ DX11_workedNode_171 h (x2 / s0) M Q)) ∧
  ((lg_cmp s0 0) = 0 → ∀ M13 : Mem, M13 = wI M x0 111 1 →
  Q (some (.long 0)) M13)) ∧
  ((mAI M b2 (x1 : Int32).toNatClampNeg) = 7 → Q (some (.long (x2 + s0))) M) ∧
  ((mAI M b2 (x1 : Int32).toNatClampNeg) = 8 → Q (some (.long (x2 - s0))) M) ∧
  (((mAI M b2 (x1 : Int32).toNatClampNeg : Int32).toInt < 1 ∨ 8 < (mAI M b2 (x1 : Int32).toNatClampNeg : Int32).toInt) → Q (some (.long x2)) M)
set_option maxRecDepth 20000 in
set_option maxHeartbeats 2000000 in
theorem VX11_workedNode_57 {h : Nat} {x0 : Nat} {x1 : Int32} {x2 : Int64} {s0 : Int64} {M : Mem} {Q : Option Value → Mem → Prop} (H : DX11_workedNode_57 h x0 x1 x2 s0 M Q) : T (h + 1) mdX11_workedNode 57 [(0, .ref x0), (1, .int x1), (2, .long x2)] [.long s0] M Q := by
  unfold DX11_workedNode_57 at H
  refine xt_lstore (lv' := [(4, .long s0), (0, .ref x0), (1, .int x1), (2, .long x2)]) dX11_workedNode_57 (by decide) rfl ?_
  refine xt_aload_n (j := 1) dX11_workedNode_59 rfl rfl ?_
  obtain ⟨ho1, H⟩ := H
  obtain ⟨b2, hb, H⟩ := H
  refine xt_getR dX11_workedNode_60 (flX11_69 rfl) ft_13_25 ho1.1 ho1.2 hb ?_
  refine xt_iload_n (j := 2) dX11_workedNode_63 rfl rfl ?_
  obtain ⟨ho3, H⟩ := H
  obtain ⟨hi, H⟩ := H
  refine xt_iald dX11_workedNode_64 ho3.1 ho3.2 hi ?_
  by_cases hsw : (mAI M b2 (x1 : Int32).toNatClampNeg : Int32).toInt < 1 ∨ 8 < (mAI M b2 (x1 : Int32).toNatClampNeg : Int32).toInt
  · refine xt_tableOut (tgt := 182) dX11_workedNode_65 hsw (by decide) ?_
    have H := H.2.2.2.2.2.2.2.2 hsw
    refine xt_lload_n (j := 3) dX11_workedNode_182 rfl rfl ?_
    exact xt_lreturn dX11_workedNode_183 rfl H
  · have hsw2 : (mAI M b2 (x1 : Int32).toNatClampNeg : Int32).toInt = 1 ∨ (mAI M b2 (x1 : Int32).toNatClampNeg : Int32).toInt = 2 ∨ (mAI M b2 (x1 : Int32).toNatClampNeg : Int32).toInt = 3 ∨ (mAI M b2 (x1 : Int32).toNatClampNeg : Int32).toInt = 4 ∨ (mAI M b2 (x1 : Int32).toNatClampNeg : Int32).toInt = 5 ∨ (mAI M b2 (x1 : Int32).toNatClampNeg : Int32).toInt = 6 ∨ (mAI M b2 (x1 : Int32).toNatClampNeg : Int32).toInt = 7 ∨ (mAI M b2 (x1 : Int32).toNatClampNeg : Int32).toInt = 8 := by omega
    rcases hsw2 with hv | hv | hv | hv | hv | hv | hv | hv
    · have hx : (mAI M b2 (x1 : Int32).toNatClampNeg) = 1 := i32_ofInt hv
      have H := H.1 hx
      refine xt_tableIn (tgt := 112) dX11_workedNode_65 (by omega) (by omega) (by rw [hv]; rfl) (by decide) ?_
      refine xt_aload_n (j := 1) dX11_workedNode_112 rfl rfl ?_
      obtain ⟨b4, hb, H⟩ := H
      refine xt_getR dX11_workedNode_113 (flX11_282 rfl) ft_13_110 ho1.1 ho1.2 hb ?_
      refine xt_lload_n (j := 3) dX11_workedNode_116 rfl rfl ?_
      refine xt_l2i dX11_workedNode_117 ?_
      obtain ⟨ho5, H⟩ := H
      obtain ⟨hi, H⟩ := H
      refine xt_lald dX11_workedNode_118 ho5.1 ho5.2 hi ?_
      exact xt_lreturn dX11_workedNode_119 rfl H
    · have hx : (mAI M b2 (x1 : Int32).toNatClampNeg) = 2 := i32_ofInt hv
      have H := H.2.1 hx
      refine xt_tableIn (tgt := 120) dX11_workedNode_65 (by omega) (by omega) (by rw [hv]; rfl) (by decide) ?_
      refine xt_aload_n (j := 1) dX11_workedNode_120 rfl rfl ?_
      obtain ⟨b6, hb, H⟩ := H
      refine xt_getR dX11_workedNode_121 (flX11_279 rfl) ft_13_109 ho1.1 ho1.2 hb ?_
      refine xt_lload_n (j := 3) dX11_workedNode_124 rfl rfl ?_
      refine xt_l2i dX11_workedNode_125 ?_
      obtain ⟨ho7, H⟩ := H
      obtain ⟨hi, H⟩ := H
      refine xt_lald dX11_workedNode_126 ho7.1 ho7.2 hi ?_
      exact xt_lreturn dX11_workedNode_127 rfl H
    · have hx : (mAI M b2 (x1 : Int32).toNatClampNeg) = 3 := i32_ofInt hv
      have H := H.2.2.1 hx
      refine xt_tableIn (tgt := 128) dX11_workedNode_65 (by omega) (by omega) (by rw [hv]; rfl) (by decide) ?_
      refine xt_lload_n (j := 3) dX11_workedNode_128 rfl rfl ?_
      refine xt_lneg dX11_workedNode_129 ?_
      exact xt_lreturn dX11_workedNode_130 rfl H
    · have hx : (mAI M b2 (x1 : Int32).toNatClampNeg) = 4 := i32_ofInt hv
      have H := H.2.2.2.1 hx
      refine xt_tableIn (tgt := 131) dX11_workedNode_65 (by omega) (by omega) (by rw [hv]; rfl) (by decide) ?_
      refine xt_lload_n (j := 3) dX11_workedNode_131 rfl rfl ?_
      refine xt_lload (j := 0) dX11_workedNode_132 rfl ?_
      refine xt_lmul dX11_workedNode_134 ?_
      exact xt_lreturn dX11_workedNode_135 rfl H
    · have hx : (mAI M b2 (x1 : Int32).toNatClampNeg) = 5 := i32_ofInt hv
      have H := H.2.2.2.2.1 hx
      refine xt_tableIn (tgt := 136) dX11_workedNode_65 (by omega) (by omega) (by rw [hv]; rfl) (by decide) ?_
      refine xt_lload (j := 0) dX11_workedNode_136 rfl ?_
      refine xt_lconst (v := 0) dX11_workedNode_138 (by decide) ?_
      refine xt_lcmp dX11_workedNode_139 ?_
      refine xt_if_ne (tgt := 150) dX11_workedNode_140 (by decide) (fun hc => ?_) (fun hc => ?_)
      · have H := H.1 hc
        refine xt_aload_n (j := 1) dX11_workedNode_150 rfl rfl ?_
        obtain ⟨b8, hb, H⟩ := H
        refine xt_getR dX11_workedNode_151 (flX11_69 rfl) ft_13_25 ho1.1 ho1.2 hb ?_
        refine xt_iload_n (j := 2) dX11_workedNode_154 rfl rfl ?_
        obtain ⟨ho9, H⟩ := H
        obtain ⟨hi, H⟩ := H
        refine xt_iald dX11_workedNode_155 ho9.1 ho9.2 hi ?_
        refine xt_iconst (v := 5) dX11_workedNode_156 (by decide) ?_
        refine xt_icmp_ne (tgt := 167) dX11_workedNode_157 (by decide) (fun hc => ?_) (fun hc => ?_)
        · have H := H.1 hc
          refine xt_lload_n (j := 3) dX11_workedNode_167 rfl rfl ?_
          refine xt_lload (j := 0) dX11_workedNode_168 rfl ?_
          obtain ⟨hne, H⟩ := H
          refine xt_lrem dX11_workedNode_170 hne ?_
          exact xt_sub [] rfl (VX11_workedNode_171 H)
        · have H := H.2 hc
          refine xt_lload_n (j := 3) dX11_workedNode_160 rfl rfl ?_
          refine xt_lload (j := 0) dX11_workedNode_161 rfl ?_
          obtain ⟨hne, H⟩ := H
          refine xt_ldiv dX11_workedNode_163 hne ?_
          refine xt_goto (tgt := 171) dX11_workedNode_164 (by decide) ?_
          exact xt_sub [] rfl (VX11_workedNode_171 H)
      · have H := H.2 hc
        refine xt_aload_n (j := 1) dX11_workedNode_143 rfl rfl ?_
        refine xt_iconst (v := 1) dX11_workedNode_144 (by decide) ?_
        obtain ⟨M10, eM10⟩ : ∃ z, z = wI M x0 111 1 := ⟨_, rfl⟩
        have H := H _ eM10
        refine xt_putI dX11_workedNode_145 (flX11_802 rfl) ty_13_111 rfl ho1.1 ho1.2 ?_
        have ho1 : ok M10 x0 13 := by rw [eM10]; exact ho1
        rw [← eM10]
        refine xt_lconst (v := 0) dX11_workedNode_148 (by decide) ?_
        exact xt_lreturn dX11_workedNode_149 rfl H
    · have hx : (mAI M b2 (x1 : Int32).toNatClampNeg) = 6 := i32_ofInt hv
      have H := H.2.2.2.2.2.1 hx
      refine xt_tableIn (tgt := 136) dX11_workedNode_65 (by omega) (by omega) (by rw [hv]; rfl) (by decide) ?_
      refine xt_lload (j := 0) dX11_workedNode_136 rfl ?_
      refine xt_lconst (v := 0) dX11_workedNode_138 (by decide) ?_
      refine xt_lcmp dX11_workedNode_139 ?_
      refine xt_if_ne (tgt := 150) dX11_workedNode_140 (by decide) (fun hc => ?_) (fun hc => ?_)
      · have H := H.1 hc
        refine xt_aload_n (j := 1) dX11_workedNode_150 rfl rfl ?_
        obtain ⟨b11, hb, H⟩ := H
        refine xt_getR dX11_workedNode_151 (flX11_69 rfl) ft_13_25 ho1.1 ho1.2 hb ?_
        refine xt_iload_n (j := 2) dX11_workedNode_154 rfl rfl ?_
        obtain ⟨ho12, H⟩ := H
        obtain ⟨hi, H⟩ := H
        refine xt_iald dX11_workedNode_155 ho12.1 ho12.2 hi ?_
        refine xt_iconst (v := 5) dX11_workedNode_156 (by decide) ?_
        refine xt_icmp_ne (tgt := 167) dX11_workedNode_157 (by decide) (fun hc => ?_) (fun hc => ?_)
        · have H := H.1 hc
          refine xt_lload_n (j := 3) dX11_workedNode_167 rfl rfl ?_
          refine xt_lload (j := 0) dX11_workedNode_168 rfl ?_
          obtain ⟨hne, H⟩ := H
          refine xt_lrem dX11_workedNode_170 hne ?_
          exact xt_sub [] rfl (VX11_workedNode_171 H)
        · have H := H.2 hc
          refine xt_lload_n (j := 3) dX11_workedNode_160 rfl rfl ?_
          refine xt_lload (j := 0) dX11_workedNode_161 rfl ?_
          obtain ⟨hne, H⟩ := H
          refine xt_ldiv dX11_workedNode_163 hne ?_
          refine xt_goto (tgt := 171) dX11_workedNode_164 (by decide) ?_
          exact xt_sub [] rfl (VX11_workedNode_171 H)
      · have H := H.2 hc
        refine xt_aload_n (j := 1) dX11_workedNode_143 rfl rfl ?_
        refine xt_iconst (v := 1) dX11_workedNode_144 (by decide) ?_
        obtain ⟨M13, eM13⟩ : ∃ z, z = wI M x0 111 1 := ⟨_, rfl⟩
        have H := H _ eM13
        refine xt_putI dX11_workedNode_145 (flX11_802 rfl) ty_13_111 rfl ho1.1 ho1.2 ?_
        have ho1 : ok M13 x0 13 := by rw [eM13]; exact ho1
        rw [← eM13]
        refine xt_lconst (v := 0) dX11_workedNode_148 (by decide) ?_
        exact xt_lreturn dX11_workedNode_149 rfl H
    · have hx : (mAI M b2 (x1 : Int32).toNatClampNeg) = 7 := i32_ofInt hv
      have H := H.2.2.2.2.2.2.1 hx
      refine xt_tableIn (tgt := 172) dX11_workedNode_65 (by omega) (by omega) (by rw [hv]; rfl) (by decide) ?_
      refine xt_lload_n (j := 3) dX11_workedNode_172 rfl rfl ?_
      refine xt_lload (j := 0) dX11_workedNode_173 rfl ?_
      refine xt_ladd dX11_workedNode_175 ?_
      exact xt_lreturn dX11_workedNode_176 rfl H
    · have hx : (mAI M b2 (x1 : Int32).toNatClampNeg) = 8 := i32_ofInt hv
      have H := H.2.2.2.2.2.2.2.1 hx
      refine xt_tableIn (tgt := 177) dX11_workedNode_65 (by omega) (by omega) (by rw [hv]; rfl) (by decide) ?_
      refine xt_lload_n (j := 3) dX11_workedNode_177 rfl rfl ?_
      refine xt_lload (j := 0) dX11_workedNode_178 rfl ?_
      refine xt_lsub dX11_workedNode_180 ?_
      exact xt_lreturn dX11_workedNode_181 rfl H
def DX11_workedNode_31 (h : Nat) (x0 : Nat) (x1 : Int32) (s0 : Int64) (M : Mem) (Q : Option Value → Mem → Prop) : Prop :=
  ok M x0 13 ∧ ∃ b2 : Nat, mR M x0 25 = some b2 ∧ ok M b2 21 ∧ vp_in x1 (mL M b2) ∧ ((mAI M b2 (x1 : Int32).toNatClampNeg) ≤ 3 → DX11_workedNode_57 h x0 x1 s0 0 M Q) ∧
  (¬ ((mAI M b2 (x1 : Int32).toNatClampNeg) ≤ 3) → ∃ b4 : Nat, mR M x0 108 = some b4 ∧ ∃ b5 : Nat, mR M x0 27 = some b5 ∧ ok M b5 21 ∧ vp_in x1 (mL M b5) ∧ ok M b4 23 ∧ vp_in (mAI M b5 (x1 : Int32).toNatClampNeg) (mL M b4) ∧ DX11_workedNode_57 h x0 x1 s0 (mAJ M b4 (mAI M b5 (x1 : Int32).toNatClampNeg : Int32).toNatClampNeg) M Q)
set_option maxRecDepth 20000 in
set_option maxHeartbeats 2000000 in
theorem VX11_workedNode_31 {h : Nat} {x0 : Nat} {x1 : Int32} {s0 : Int64} {M : Mem} {Q : Option Value → Mem → Prop} (H : DX11_workedNode_31 h x0 x1 s0 M Q) : T (h + 1) mdX11_workedNode 31 [(0, .ref x0), (1, .int x1)] [.long s0] M Q := by
  unfold DX11_workedNode_31 at H
  refine xt_lstore_n (lv' := [(2, .long s0), (0, .ref x0), (1, .int x1)]) dX11_workedNode_31 rfl (by decide) rfl ?_
  refine xt_aload_n (j := 1) dX11_workedNode_32 rfl rfl ?_
  obtain ⟨ho1, H⟩ := H
  obtain ⟨b2, hb, H⟩ := H
  refine xt_getR dX11_workedNode_33 (flX11_69 rfl) ft_13_25 ho1.1 ho1.2 hb ?_
  refine xt_iload_n (j := 2) dX11_workedNode_36 rfl rfl ?_
  obtain ⟨ho3, H⟩ := H
  obtain ⟨hi, H⟩ := H
  refine xt_iald dX11_workedNode_37 ho3.1 ho3.2 hi ?_
  refine xt_iconst (v := 3) dX11_workedNode_38 (by decide) ?_
  refine xt_icmp_le (tgt := 56) dX11_workedNode_39 (by decide) (fun hc => ?_) (fun hc => ?_)
  · have H := H.1 hc
    refine xt_lconst (v := 0) dX11_workedNode_56 (by decide) ?_
    exact xt_sub [1, 2, 0] rfl (VX11_workedNode_57 H)
  · have H := H.2 hc
    refine xt_aload_n (j := 1) dX11_workedNode_42 rfl rfl ?_
    obtain ⟨b4, hb, H⟩ := H
    refine xt_getR dX11_workedNode_43 (flX11_276 rfl) ft_13_108 ho1.1 ho1.2 hb ?_
    refine xt_aload_n (j := 1) dX11_workedNode_46 rfl rfl ?_
    obtain ⟨b5, hb, H⟩ := H
    refine xt_getR dX11_workedNode_47 (flX11_75 rfl) ft_13_27 ho1.1 ho1.2 hb ?_
    refine xt_iload_n (j := 2) dX11_workedNode_50 rfl rfl ?_
    obtain ⟨ho6, H⟩ := H
    obtain ⟨hi, H⟩ := H
    refine xt_iald dX11_workedNode_51 ho6.1 ho6.2 hi ?_
    obtain ⟨ho7, H⟩ := H
    obtain ⟨hi, H⟩ := H
    refine xt_lald dX11_workedNode_52 ho7.1 ho7.2 hi ?_
    refine xt_goto (tgt := 57) dX11_workedNode_53 (by decide) ?_
    exact xt_sub [1, 2, 0] rfl (VX11_workedNode_57 H)
def DX11_workedNode_0 (h : Nat) (x0 : Nat) (x1 : Int32) (M : Mem) (Q : Option Value → Mem → Prop) : Prop :=
  ok M x0 13 ∧ ∃ b2 : Nat, mR M x0 25 = some b2 ∧ ok M b2 21 ∧ vp_in x1 (mL M b2) ∧ (3 ≤ (mAI M b2 (x1 : Int32).toNatClampNeg) → ∃ b4 : Nat, mR M x0 108 = some b4 ∧ ∃ b5 : Nat, mR M x0 26 = some b5 ∧ ok M b5 23 ∧ vp_in x1 (mL M b5) ∧ ok M b4 23 ∧ vp_in ((mAJ M b5 (x1 : Int32).toNatClampNeg : Int64).toInt32) (mL M b4) ∧ DX11_workedNode_31 h x0 x1 (mAJ M b4 ((mAJ M b5 (x1 : Int32).toNatClampNeg : Int64).toInt32 : Int32).toNatClampNeg) M Q) ∧
  (¬ (3 ≤ (mAI M b2 (x1 : Int32).toNatClampNeg)) → ∃ b8 : Nat, mR M x0 26 = some b8 ∧ ok M b8 23 ∧ vp_in x1 (mL M b8) ∧ DX11_workedNode_31 h x0 x1 (mAJ M b8 (x1 : Int32).toNatClampNeg) M Q)
set_option maxRecDepth 20000 in
set_option maxHeartbeats 2000000 in
theorem VX11_workedNode_0 {h : Nat} {x0 : Nat} {x1 : Int32} {M : Mem} {Q : Option Value → Mem → Prop} (H : DX11_workedNode_0 h x0 x1 M Q) : T (h + 1) mdX11_workedNode 0 [(0, .ref x0), (1, .int x1)] [] M Q := by
  unfold DX11_workedNode_0 at H
  refine xt_aload_n (j := 0) dX11_workedNode_0 rfl rfl ?_
  obtain ⟨ho1, H⟩ := H
  obtain ⟨b2, hb, H⟩ := H
  refine xt_getR dX11_workedNode_1 (flX11_69 rfl) ft_13_25 ho1.1 ho1.2 hb ?_
  refine xt_iload_n (j := 1) dX11_workedNode_4 rfl rfl ?_
  obtain ⟨ho3, H⟩ := H
  obtain ⟨hi, H⟩ := H
  refine xt_iald dX11_workedNode_5 ho3.1 ho3.2 hi ?_
  refine xt_iconst (v := 3) dX11_workedNode_6 (by decide) ?_
  refine xt_icmp_ge (tgt := 19) dX11_workedNode_7 (by decide) (fun hc => ?_) (fun hc => ?_)
  · have H := H.1 hc
    refine xt_aload_n (j := 0) dX11_workedNode_19 rfl rfl ?_
    obtain ⟨b4, hb, H⟩ := H
    refine xt_getR dX11_workedNode_20 (flX11_276 rfl) ft_13_108 ho1.1 ho1.2 hb ?_
    refine xt_aload_n (j := 0) dX11_workedNode_23 rfl rfl ?_
    obtain ⟨b5, hb, H⟩ := H
    refine xt_getR dX11_workedNode_24 (flX11_72 rfl) ft_13_26 ho1.1 ho1.2 hb ?_
    refine xt_iload_n (j := 1) dX11_workedNode_27 rfl rfl ?_
    obtain ⟨ho6, H⟩ := H
    obtain ⟨hi, H⟩ := H
    refine xt_lald dX11_workedNode_28 ho6.1 ho6.2 hi ?_
    refine xt_l2i dX11_workedNode_29 ?_
    obtain ⟨ho7, H⟩ := H
    obtain ⟨hi, H⟩ := H
    refine xt_lald dX11_workedNode_30 ho7.1 ho7.2 hi ?_
    exact xt_sub [0, 1] rfl (VX11_workedNode_31 H)
  · have H := H.2 hc
    refine xt_aload_n (j := 0) dX11_workedNode_10 rfl rfl ?_
    obtain ⟨b8, hb, H⟩ := H
    refine xt_getR dX11_workedNode_11 (flX11_72 rfl) ft_13_26 ho1.1 ho1.2 hb ?_
    refine xt_iload_n (j := 1) dX11_workedNode_14 rfl rfl ?_
    obtain ⟨ho9, H⟩ := H
    obtain ⟨hi, H⟩ := H
    refine xt_lald dX11_workedNode_15 ho9.1 ho9.2 hi ?_
    refine xt_goto (tgt := 31) dX11_workedNode_16 (by decide) ?_
    exact xt_sub [0, 1] rfl (VX11_workedNode_31 H)
theorem KX11_workedNode {h : Nat} {x0 : Nat} {x1 : Int32} {M : Mem} {Q : Option Value → Mem → Prop} (H : DX11_workedNode_0 h x0 x1 M Q) : E (h + 1) mdX11_workedNode [.ref x0, .int x1] M Q := E.of (by decide) (Nat.le_of_ble_eq_true rfl) (fun _ _ _ => trivial) (VX11_workedNode_0 H)
def DX11_work_78 (h : Nat) (s0 : Int64) (M : Mem) (Q : Option Value → Mem → Prop) : Prop :=
  Q (some (.long s0)) M
set_option maxRecDepth 20000 in
set_option maxHeartbeats 2000000 in
theorem VX11_work_78 {h : Nat} {s0 : Int64} {M : Mem} {Q : Option Value → Mem → Prop} (H : DX11_work_78 h s0 M Q) : T (h + 1) mdX11_work 78 [] [.long s0] M Q := by
  unfold DX11_work_78 at H
  exact xt_lreturn dX11_work_78 rfl H
def DX11_work_61 (h : Nat) (x0 : Nat) (x2 : Int32) (M : Mem) (Q : Option Value → Mem → Prop) : Prop :=
  ok M x0 13 ∧ (¬ (mI M x0 111) = 0 → DX11_work_78 h 0 M Q) ∧
  ((mI M x0 111) = 0 → ∃ b2 : Nat, mR M x0 108 = some b2 ∧ ok M b2 23 ∧ vp_in x2 (mL M b2) ∧ DX11_work_78 h (mAJ M b2 (x2 : Int32).toNatClampNeg) M Q)
set_option maxRecDepth 20000 in
set_option maxHeartbeats 2000000 in
theorem VX11_work_61 {h : Nat} {x0 : Nat} {x2 : Int32} {M : Mem} {Q : Option Value → Mem → Prop} (H : DX11_work_61 h x0 x2 M Q) : T (h + 1) mdX11_work 61 [(0, .ref x0), (2, .int x2)] [] M Q := by
  unfold DX11_work_61 at H
  refine xt_aload_n (j := 0) dX11_work_61 rfl rfl ?_
  obtain ⟨ho1, H⟩ := H
  refine xt_getI dX11_work_62 (flX11_802 rfl) ft_13_111 ho1.1 ho1.2 ?_
  refine xt_if_ne (tgt := 77) dX11_work_65 (by decide) (fun hc => ?_) (fun hc => ?_)
  · have H := H.1 hc
    refine xt_lconst (v := 0) dX11_work_77 (by decide) ?_
    exact xt_sub [] rfl (VX11_work_78 H)
  · have H := H.2 hc
    refine xt_aload_n (j := 0) dX11_work_68 rfl rfl ?_
    obtain ⟨b2, hb, H⟩ := H
    refine xt_getR dX11_work_69 (flX11_276 rfl) ft_13_108 ho1.1 ho1.2 hb ?_
    refine xt_iload_n (j := 1) dX11_work_72 rfl rfl ?_
    obtain ⟨ho3, H⟩ := H
    obtain ⟨hi, H⟩ := H
    refine xt_lald dX11_work_73 ho3.1 ho3.2 hi ?_
    refine xt_goto (tgt := 78) dX11_work_74 (by decide) ?_
    exact xt_sub [] rfl (VX11_work_78 H)
def DX11_work_55 (h : Nat) (x0 : Nat) (x2 : Int32) (x3 : Int32) (M : Mem) (Q : Option Value → Mem → Prop) : Prop :=
  T (h + 1) mdX11_work 2 [(0, .ref x0), (2, .int x2), (3, .int (x3 + 1))] [] M Q
set_option maxRecDepth 20000 in
set_option maxHeartbeats 2000000 in
theorem VX11_work_55 {h : Nat} {x0 : Nat} {x2 : Int32} {x3 : Int32} {M : Mem} {Q : Option Value → Mem → Prop} (H : DX11_work_55 h x0 x2 x3 M Q) : T (h + 1) mdX11_work 55 [(0, .ref x0), (2, .int x2), (3, .int x3)] [] M Q := by
  unfold DX11_work_55 at H
  refine xt_iinc (j := 2) (v := x3 + 1) (lv' := [(3, .int (x3 + 1)), (0, .ref x0), (2, .int x2)]) dX11_work_55 rfl (by rfl) (by decide) rfl ?_
  refine xt_goto (tgt := 2) dX11_work_58 (by decide) ?_
  exact xt_sub (lv' := [(0, .ref x0), (2, .int x2), (3, .int (x3 + 1))]) [1, 2, 0] rfl H
def DX11_work_2 (h : Nat) (x0 : Nat) (x2 : Int32) (x3 : Int32) (M : Mem) (Q : Option Value → Mem → Prop) : Prop :=
  (x2 < x3 → DX11_work_61 h x0 x2 M Q) ∧
  (¬ (x2 < x3) → ok M x0 13 ∧ (¬ (mI M x0 111) = 0 → DX11_work_61 h x0 x2 M Q) ∧
  ((mI M x0 111) = 0 → ∃ b2 : Nat, mR M x0 108 = some b2 ∧ E h mdX11_workedNode [.ref x0, .int x3] M (fun r M3 => mE M M3 → ∃ r4 : Int64, r = some (.long r4) ∧ ok M3 b2 23 ∧ vp_in x3 (mL M3 b2) ∧ ∀ M6 : Mem, M6 = wAJ M3 b2 (x3 : Int32).toNatClampNeg r4 →
  (¬ (mI M6 x0 111) = 0 → DX11_work_55 h x0 x2 x3 M6 Q) ∧
  ((mI M6 x0 111) = 0 → ∃ b7 : Nat, mR M6 x0 108 = some b7 ∧ ok M6 b7 23 ∧ vp_in x3 (mL M6 b7) ∧ E h mdX11_in [.long (mAJ M6 b7 (x3 : Int32).toNatClampNeg), .long (-1000000000), .long 1000000000] M6 (fun r M9 => mE M6 M9 → ∃ r10 : Int32, r = some (.int r10) ∧ (¬ r10 = 0 → DX11_work_55 h x0 x2 x3 M9 Q) ∧
  (r10 = 0 → ∀ M11 : Mem, M11 = wI M9 x0 111 2 →
  DX11_work_55 h x0 x2 x3 M11 Q))))))
set_option maxRecDepth 20000 in
set_option maxHeartbeats 2000000 in
theorem VX11_work_2 {h : Nat} {x0 : Nat} {x2 : Int32} {x3 : Int32} {M : Mem} {Q : Option Value → Mem → Prop} (H : DX11_work_2 h x0 x2 x3 M Q) : T (h + 1) mdX11_work 2 [(0, .ref x0), (2, .int x2), (3, .int x3)] [] M Q := by
  unfold DX11_work_2 at H
  refine xt_iload_n (j := 2) dX11_work_2 rfl rfl ?_
  refine xt_iload_n (j := 1) dX11_work_3 rfl rfl ?_
  refine xt_icmp_gt (tgt := 61) dX11_work_4 (by decide) (fun hc => ?_) (fun hc => ?_)
  · have H := H.1 hc
    exact xt_sub [0, 1] rfl (VX11_work_61 H)
  · have H := H.2 hc
    refine xt_aload_n (j := 0) dX11_work_7 rfl rfl ?_
    obtain ⟨ho1, H⟩ := H
    refine xt_getI dX11_work_8 (flX11_802 rfl) ft_13_111 ho1.1 ho1.2 ?_
    refine xt_if_ne (tgt := 61) dX11_work_11 (by decide) (fun hc => ?_) (fun hc => ?_)
    · have H := H.1 hc
      exact xt_sub [0, 1] rfl (VX11_work_61 H)
    · have H := H.2 hc
      refine xt_aload_n (j := 0) dX11_work_14 rfl rfl ?_
      obtain ⟨b2, hb, H⟩ := H
      refine xt_getR dX11_work_15 (flX11_276 rfl) ft_13_108 ho1.1 ho1.2 hb ?_
      refine xt_iload_n (j := 2) dX11_work_18 rfl rfl ?_
      refine xt_aload_n (j := 0) dX11_work_19 rfl rfl ?_
      refine xt_iload_n (j := 2) dX11_work_20 rfl rfl ?_
      refine xt_callV (h2 := h) (as := [.int x3]) (st := [.int x3, .ref b2]) dX11_work_21 (mlX11_805 rfl) rfl ho1.1 ⟨by rw [ho1.2]; rfl, by rw [ho1.2]; decide⟩ (by first | decide | (simp [Value.category]; done)) (Nat.le_refl _) H (fun r M3 HH hE => ?_)
      obtain ⟨r4, hr, H⟩ := HH hE
      subst hr
      have ho1 := ok_E ho1 hE
      show T _ _ _ _ [.long r4, .int x3, .ref b2] _ _
      obtain ⟨ho5, H⟩ := H
      obtain ⟨hi, H⟩ := H
      obtain ⟨M6, eM6⟩ : ∃ z, z = wAJ M3 b2 (x3 : Int32).toNatClampNeg r4 := ⟨_, rfl⟩
      have H := H _ eM6
      refine xt_last dX11_work_24 ho5.1 ho5.2 hi ?_
      have ho1 : ok M6 x0 13 := by rw [eM6]; exact ho1
      rw [← eM6]
      refine xt_aload_n (j := 0) dX11_work_25 rfl rfl ?_
      refine xt_getI dX11_work_26 (flX11_802 rfl) ft_13_111 ho1.1 ho1.2 ?_
      refine xt_if_ne (tgt := 55) dX11_work_29 (by decide) (fun hc => ?_) (fun hc => ?_)
      · have H := H.1 hc
        exact xt_sub [0, 1, 2] rfl (VX11_work_55 H)
      · have H := H.2 hc
        refine xt_aload_n (j := 0) dX11_work_32 rfl rfl ?_
        obtain ⟨b7, hb, H⟩ := H
        refine xt_getR dX11_work_33 (flX11_276 rfl) ft_13_108 ho1.1 ho1.2 hb ?_
        refine xt_iload_n (j := 2) dX11_work_36 rfl rfl ?_
        obtain ⟨ho8, H⟩ := H
        obtain ⟨hi, H⟩ := H
        refine xt_lald dX11_work_37 ho8.1 ho8.2 hi ?_
        refine xt_ldc2 (v := -1000000000) dX11_work_38 (ctX11_798 rfl) ?_
        refine xt_ldc2 (v := 1000000000) dX11_work_41 (ctX11_800 rfl) ?_
        refine xt_callS (h2 := h) (as := [.long (mAJ M6 b7 (x3 : Int32).toNatClampNeg), .long (-1000000000), .long 1000000000]) (st := []) dX11_work_44 (mlX11_332 rfl) rfl (by first | decide | (simp [Value.category]; done)) (Nat.le_refl _) H (fun r M9 HH hE => ?_)
        obtain ⟨r10, hr, H⟩ := HH hE
        subst hr
        have ho1 := ok_E ho1 hE
        show T _ _ _ _ [.int r10] _ _
        refine xt_if_ne (tgt := 55) dX11_work_47 (by decide) (fun hc => ?_) (fun hc => ?_)
        · have H := H.1 hc
          exact xt_sub [0, 1, 2] rfl (VX11_work_55 H)
        · have H := H.2 hc
          refine xt_aload_n (j := 0) dX11_work_50 rfl rfl ?_
          refine xt_iconst (v := 2) dX11_work_51 (by decide) ?_
          obtain ⟨M11, eM11⟩ : ∃ z, z = wI M9 x0 111 2 := ⟨_, rfl⟩
          have H := H _ eM11
          refine xt_putI dX11_work_52 (flX11_802 rfl) ty_13_111 rfl ho1.1 ho1.2 ?_
          have ho1 : ok M11 x0 13 := by rw [eM11]; exact ho1
          rw [← eM11]
          exact xt_sub [0, 1, 2] rfl (VX11_work_55 H)
def DX11_work_0 (h : Nat) (x0 : Nat) (x1 : Int32) (x2 : Int32) (M : Mem) (Q : Option Value → Mem → Prop) : Prop :=
  T (h + 1) mdX11_work 2 [(0, .ref x0), (2, .int x2), (3, .int x1)] [] M Q
set_option maxRecDepth 20000 in
set_option maxHeartbeats 2000000 in
theorem VX11_work_0 {h : Nat} {x0 : Nat} {x1 : Int32} {x2 : Int32} {M : Mem} {Q : Option Value → Mem → Prop} (H : DX11_work_0 h x0 x1 x2 M Q) : T (h + 1) mdX11_work 0 [(0, .ref x0), (1, .int x1), (2, .int x2)] [] M Q := by
  unfold DX11_work_0 at H
  refine xt_iload_n (j := 1) dX11_work_0 rfl rfl ?_
  refine xt_istore_n (lv' := [(3, .int x1), (0, .ref x0), (1, .int x1), (2, .int x2)]) dX11_work_1 rfl (by decide) rfl ?_
  exact xt_sub (lv' := [(0, .ref x0), (2, .int x2), (3, .int x1)]) [1, 3, 0] rfl H
theorem KX11_work {h : Nat} {x0 : Nat} {x1 : Int32} {x2 : Int32} {M : Mem} {Q : Option Value → Mem → Prop} (H : DX11_work_0 h x0 x1 x2 M Q) : E (h + 1) mdX11_work [.ref x0, .int x1, .int x2] M Q := E.of (by decide) (Nat.le_of_ble_eq_true rfl) (fun _ _ _ => trivial) (VX11_work_0 H)
def DX11_holds_107 (h : Nat) (s0 : Int32) (M : Mem) (Q : Option Value → Mem → Prop) : Prop :=
  (s0 = 0 ∨ s0 = 1) ∧ Q (some (.int s0)) M
set_option maxRecDepth 20000 in
set_option maxHeartbeats 2000000 in
theorem VX11_holds_107 {h : Nat} {s0 : Int32} {M : Mem} {Q : Option Value → Mem → Prop} (H : DX11_holds_107 h s0 M Q) : T (h + 1) mdX11_holds 107 [] [.int s0] M Q := by
  unfold DX11_holds_107 at H
  exact xt_zreturn dX11_holds_107 rfl H.1 H.2
def DX11_holds_47 (h : Nat) (s0 : Int32) (M : Mem) (Q : Option Value → Mem → Prop) : Prop :=
  (s0 = 0 ∨ s0 = 1) ∧ Q (some (.int s0)) M
set_option maxRecDepth 20000 in
set_option maxHeartbeats 2000000 in
theorem VX11_holds_47 {h : Nat} {s0 : Int32} {M : Mem} {Q : Option Value → Mem → Prop} (H : DX11_holds_47 h s0 M Q) : T (h + 1) mdX11_holds 47 [] [.int s0] M Q := by
  unfold DX11_holds_47 at H
  exact xt_zreturn dX11_holds_47 rfl H.1 H.2
def DX11_holds_59 (h : Nat) (s0 : Int32) (M : Mem) (Q : Option Value → Mem → Prop) : Prop :=
  (s0 = 0 ∨ s0 = 1) ∧ Q (some (.int s0)) M
set_option maxRecDepth 20000 in
set_option maxHeartbeats 2000000 in
theorem VX11_holds_59 {h : Nat} {s0 : Int32} {M : Mem} {Q : Option Value → Mem → Prop} (H : DX11_holds_59 h s0 M Q) : T (h + 1) mdX11_holds 59 [] [.int s0] M Q := by
  unfold DX11_holds_59 at H
  exact xt_zreturn dX11_holds_59 rfl H.1 H.2
def DX11_holds_71 (h : Nat) (s0 : Int32) (M : Mem) (Q : Option Value → Mem → Prop) : Prop :=
  (s0 = 0 ∨ s0 = 1) ∧ Q (some (.int s0)) M
set_option maxRecDepth 20000 in
set_option maxHeartbeats 2000000 in
theorem VX11_holds_71 {h : Nat} {s0 : Int32} {M : Mem} {Q : Option Value → Mem → Prop} (H : DX11_holds_71 h s0 M Q) : T (h + 1) mdX11_holds 71 [] [.int s0] M Q := by
  unfold DX11_holds_71 at H
  exact xt_zreturn dX11_holds_71 rfl H.1 H.2
def DX11_holds_83 (h : Nat) (s0 : Int32) (M : Mem) (Q : Option Value → Mem → Prop) : Prop :=
  (s0 = 0 ∨ s0 = 1) ∧ Q (some (.int s0)) M
set_option maxRecDepth 20000 in
set_option maxHeartbeats 2000000 in
theorem VX11_holds_83 {h : Nat} {s0 : Int32} {M : Mem} {Q : Option Value → Mem → Prop} (H : DX11_holds_83 h s0 M Q) : T (h + 1) mdX11_holds 83 [] [.int s0] M Q := by
  unfold DX11_holds_83 at H
  exact xt_zreturn dX11_holds_83 rfl H.1 H.2
def DX11_holds_95 (h : Nat) (s0 : Int32) (M : Mem) (Q : Option Value → Mem → Prop) : Prop :=
  (s0 = 0 ∨ s0 = 1) ∧ Q (some (.int s0)) M
set_option maxRecDepth 20000 in
set_option maxHeartbeats 2000000 in
theorem VX11_holds_95 {h : Nat} {s0 : Int32} {M : Mem} {Q : Option Value → Mem → Prop} (H : DX11_holds_95 h s0 M Q) : T (h + 1) mdX11_holds 95 [] [.int s0] M Q := by
  unfold DX11_holds_95 at H
  exact xt_zreturn dX11_holds_95 rfl H.1 H.2
def DX11_holds_0 (h : Nat) (x0 : Int32) (x1 : Int64) (x3 : Int64) (M : Mem) (Q : Option Value → Mem → Prop) : Prop :=
  (x0 = 0 → (¬ (lg_cmp x1 x3) = 0 → DX11_holds_47 h 0 M Q) ∧
  ((lg_cmp x1 x3) = 0 → DX11_holds_47 h 1 M Q)) ∧
  (x0 = 1 → ((lg_cmp x1 x3) = 0 → DX11_holds_59 h 0 M Q) ∧
  (¬ ((lg_cmp x1 x3) = 0) → DX11_holds_59 h 1 M Q)) ∧
  (x0 = 2 → (0 ≤ (lg_cmp x1 x3) → DX11_holds_71 h 0 M Q) ∧
  (¬ (0 ≤ (lg_cmp x1 x3)) → DX11_holds_71 h 1 M Q)) ∧
  (x0 = 3 → (0 < (lg_cmp x1 x3) → DX11_holds_83 h 0 M Q) ∧
  (¬ (0 < (lg_cmp x1 x3)) → DX11_holds_83 h 1 M Q)) ∧
  (x0 = 4 → ((lg_cmp x1 x3) ≤ 0 → DX11_holds_95 h 0 M Q) ∧
  (¬ ((lg_cmp x1 x3) ≤ 0) → DX11_holds_95 h 1 M Q)) ∧
  (((x0 : Int32).toInt < 0 ∨ 4 < (x0 : Int32).toInt) → ((lg_cmp x1 x3) < 0 → DX11_holds_107 h 0 M Q) ∧
  (¬ ((lg_cmp x1 x3) < 0) → DX11_holds_107 h 1 M Q))
set_option maxRecDepth 20000 in
set_option maxHeartbeats 2000000 in
theorem VX11_holds_0 {h : Nat} {x0 : Int32} {x1 : Int64} {x3 : Int64} {M : Mem} {Q : Option Value → Mem → Prop} (H : DX11_holds_0 h x0 x1 x3 M Q) : T (h + 1) mdX11_holds 0 [(0, .int x0), (1, .long x1), (3, .long x3)] [] M Q := by
  unfold DX11_holds_0 at H
  refine xt_iload_n (j := 0) dX11_holds_0 rfl rfl ?_
  by_cases hsw : (x0 : Int32).toInt < 0 ∨ 4 < (x0 : Int32).toInt
  · refine xt_tableOut (tgt := 96) dX11_holds_1 hsw (by decide) ?_
    have H := H.2.2.2.2.2 hsw
    refine xt_lload_n (j := 1) dX11_holds_96 rfl rfl ?_
    refine xt_lload_n (j := 2) dX11_holds_97 rfl rfl ?_
    refine xt_lcmp dX11_holds_98 ?_
    refine xt_if_lt (tgt := 106) dX11_holds_99 (by decide) (fun hc => ?_) (fun hc => ?_)
    · have H := H.1 hc
      refine xt_iconst (v := 0) dX11_holds_106 (by decide) ?_
      exact xt_sub [] rfl (VX11_holds_107 H)
    · have H := H.2 hc
      refine xt_iconst (v := 1) dX11_holds_102 (by decide) ?_
      refine xt_goto (tgt := 107) dX11_holds_103 (by decide) ?_
      exact xt_sub [] rfl (VX11_holds_107 H)
  · have hsw2 : (x0 : Int32).toInt = 0 ∨ (x0 : Int32).toInt = 1 ∨ (x0 : Int32).toInt = 2 ∨ (x0 : Int32).toInt = 3 ∨ (x0 : Int32).toInt = 4 := by omega
    rcases hsw2 with hv | hv | hv | hv | hv
    · have hx : x0 = 0 := i32_ofInt hv
      have H := H.1 hx
      refine xt_tableIn (tgt := 36) dX11_holds_1 (by omega) (by omega) (by rw [hv]; rfl) (by decide) ?_
      refine xt_lload_n (j := 1) dX11_holds_36 rfl rfl ?_
      refine xt_lload_n (j := 2) dX11_holds_37 rfl rfl ?_
      refine xt_lcmp dX11_holds_38 ?_
      refine xt_if_ne (tgt := 46) dX11_holds_39 (by decide) (fun hc => ?_) (fun hc => ?_)
      · have H := H.1 hc
        refine xt_iconst (v := 0) dX11_holds_46 (by decide) ?_
        exact xt_sub [] rfl (VX11_holds_47 H)
      · have H := H.2 hc
        refine xt_iconst (v := 1) dX11_holds_42 (by decide) ?_
        refine xt_goto (tgt := 47) dX11_holds_43 (by decide) ?_
        exact xt_sub [] rfl (VX11_holds_47 H)
    · have hx : x0 = 1 := i32_ofInt hv
      have H := H.2.1 hx
      refine xt_tableIn (tgt := 48) dX11_holds_1 (by omega) (by omega) (by rw [hv]; rfl) (by decide) ?_
      refine xt_lload_n (j := 1) dX11_holds_48 rfl rfl ?_
      refine xt_lload_n (j := 2) dX11_holds_49 rfl rfl ?_
      refine xt_lcmp dX11_holds_50 ?_
      refine xt_if_eq (tgt := 58) dX11_holds_51 (by decide) (fun hc => ?_) (fun hc => ?_)
      · have H := H.1 hc
        refine xt_iconst (v := 0) dX11_holds_58 (by decide) ?_
        exact xt_sub [] rfl (VX11_holds_59 H)
      · have H := H.2 hc
        refine xt_iconst (v := 1) dX11_holds_54 (by decide) ?_
        refine xt_goto (tgt := 59) dX11_holds_55 (by decide) ?_
        exact xt_sub [] rfl (VX11_holds_59 H)
    · have hx : x0 = 2 := i32_ofInt hv
      have H := H.2.2.1 hx
      refine xt_tableIn (tgt := 60) dX11_holds_1 (by omega) (by omega) (by rw [hv]; rfl) (by decide) ?_
      refine xt_lload_n (j := 1) dX11_holds_60 rfl rfl ?_
      refine xt_lload_n (j := 2) dX11_holds_61 rfl rfl ?_
      refine xt_lcmp dX11_holds_62 ?_
      refine xt_if_ge (tgt := 70) dX11_holds_63 (by decide) (fun hc => ?_) (fun hc => ?_)
      · have H := H.1 hc
        refine xt_iconst (v := 0) dX11_holds_70 (by decide) ?_
        exact xt_sub [] rfl (VX11_holds_71 H)
      · have H := H.2 hc
        refine xt_iconst (v := 1) dX11_holds_66 (by decide) ?_
        refine xt_goto (tgt := 71) dX11_holds_67 (by decide) ?_
        exact xt_sub [] rfl (VX11_holds_71 H)
    · have hx : x0 = 3 := i32_ofInt hv
      have H := H.2.2.2.1 hx
      refine xt_tableIn (tgt := 72) dX11_holds_1 (by omega) (by omega) (by rw [hv]; rfl) (by decide) ?_
      refine xt_lload_n (j := 1) dX11_holds_72 rfl rfl ?_
      refine xt_lload_n (j := 2) dX11_holds_73 rfl rfl ?_
      refine xt_lcmp dX11_holds_74 ?_
      refine xt_if_gt (tgt := 82) dX11_holds_75 (by decide) (fun hc => ?_) (fun hc => ?_)
      · have H := H.1 hc
        refine xt_iconst (v := 0) dX11_holds_82 (by decide) ?_
        exact xt_sub [] rfl (VX11_holds_83 H)
      · have H := H.2 hc
        refine xt_iconst (v := 1) dX11_holds_78 (by decide) ?_
        refine xt_goto (tgt := 83) dX11_holds_79 (by decide) ?_
        exact xt_sub [] rfl (VX11_holds_83 H)
    · have hx : x0 = 4 := i32_ofInt hv
      have H := H.2.2.2.2.1 hx
      refine xt_tableIn (tgt := 84) dX11_holds_1 (by omega) (by omega) (by rw [hv]; rfl) (by decide) ?_
      refine xt_lload_n (j := 1) dX11_holds_84 rfl rfl ?_
      refine xt_lload_n (j := 2) dX11_holds_85 rfl rfl ?_
      refine xt_lcmp dX11_holds_86 ?_
      refine xt_if_le (tgt := 94) dX11_holds_87 (by decide) (fun hc => ?_) (fun hc => ?_)
      · have H := H.1 hc
        refine xt_iconst (v := 0) dX11_holds_94 (by decide) ?_
        exact xt_sub [] rfl (VX11_holds_95 H)
      · have H := H.2 hc
        refine xt_iconst (v := 1) dX11_holds_90 (by decide) ?_
        refine xt_goto (tgt := 95) dX11_holds_91 (by decide) ?_
        exact xt_sub [] rfl (VX11_holds_95 H)
theorem KX11_holds {h : Nat} {x0 : Int32} {x1 : Int64} {x3 : Int64} {M : Mem} {Q : Option Value → Mem → Prop} (H : DX11_holds_0 h x0 x1 x3 M Q) : E (h + 1) mdX11_holds [.int x0, .long x1, .long x3] M Q := E.of (by decide) (Nat.le_of_ble_eq_true rfl) (fun _ _ _ => trivial) (VX11_holds_0 H)
