def DX11_workIfs_161 (h : Nat) (x0 : Nat) (x1 : Int32) (x2 : Int32) (M : Mem) (Q : Option Value → Mem → Prop) : Prop :=
  T (h + 1) mdX11_workIfs 15 [(0, .ref x0), (1, .int x1), (2, .int (x2 + 1))] [] M Q
set_option maxRecDepth 20000 in
set_option maxHeartbeats 2000000 in
theorem VX11_workIfs_161 {h : Nat} {x0 : Nat} {x1 : Int32} {x2 : Int32} {M : Mem} {Q : Option Value → Mem → Prop} (H : DX11_workIfs_161 h x0 x1 x2 M Q) : T (h + 1) mdX11_workIfs 161 [(0, .ref x0), (1, .int x1), (2, .int x2)] [] M Q := by
  unfold DX11_workIfs_161 at H
  refine xt_iinc (j := 2) (v := x2 + 1) (lv' := [(2, .int (x2 + 1)), (0, .ref x0), (1, .int x1)]) dX11_workIfs_161 rfl (by rfl) (by decide) rfl ?_
  refine xt_goto (tgt := 15) dX11_workIfs_164 (by decide) ?_
  exact xt_sub (lv' := [(0, .ref x0), (1, .int x1), (2, .int (x2 + 1))]) [1, 2, 0] rfl H
def DX11_workIfs_154 (h : Nat) (x0 : Nat) (x1 : Int32) (x2 : Int32) (s0 : Nat) (s1 : Int32) (s2 : Int32) (M : Mem) (Q : Option Value → Mem → Prop) : Prop :=
  ok M s0 13 ∧ ∀ M2 : Mem, M2 = wI M s0 88 (s1 ||| s2) →
  DX11_workIfs_161 h x0 (x1 + 1) x2 M2 Q
set_option maxRecDepth 20000 in
set_option maxHeartbeats 2000000 in
theorem VX11_workIfs_154 {h : Nat} {x0 : Nat} {x1 : Int32} {x2 : Int32} {s0 : Nat} {s1 : Int32} {s2 : Int32} {M : Mem} {Q : Option Value → Mem → Prop} (H : DX11_workIfs_154 h x0 x1 x2 s0 s1 s2 M Q) : T (h + 1) mdX11_workIfs 154 [(0, .ref x0), (1, .int x1), (2, .int x2)] [.int s2, .int s1, .ref s0] M Q := by
  unfold DX11_workIfs_154 at H
  refine xt_ior dX11_workIfs_154 ?_
  obtain ⟨ho1, H⟩ := H
  obtain ⟨M2, eM2⟩ : ∃ z, z = wI M s0 88 (s1 ||| s2) := ⟨_, rfl⟩
  have H := H _ eM2
  refine xt_putI dX11_workIfs_155 (flX11_749 rfl) ty_13_88 rfl ho1.1 ho1.2 ?_
  rw [← eM2]
  refine xt_iinc (j := 1) (v := x1 + 1) (lv' := [(1, .int (x1 + 1)), (0, .ref x0), (2, .int x2)]) dX11_workIfs_158 rfl (by rfl) (by decide) rfl ?_
  exact xt_sub [1, 0, 2] rfl (VX11_workIfs_161 H)
def DX11_workIfs_153 (h : Nat) (x0 : Nat) (x1 : Int32) (x2 : Int32) (s0 : Nat) (s1 : Int32) (M : Mem) (Q : Option Value → Mem → Prop) : Prop :=
  DX11_workIfs_154 h x0 x1 x2 s0 s1 0 M Q
set_option maxRecDepth 20000 in
set_option maxHeartbeats 2000000 in
theorem VX11_workIfs_153 {h : Nat} {x0 : Nat} {x1 : Int32} {x2 : Int32} {s0 : Nat} {s1 : Int32} {M : Mem} {Q : Option Value → Mem → Prop} (H : DX11_workIfs_153 h x0 x1 x2 s0 s1 M Q) : T (h + 1) mdX11_workIfs 153 [(0, .ref x0), (1, .int x1), (2, .int x2)] [.int s1, .ref s0] M Q := by
  unfold DX11_workIfs_153 at H
  refine xt_iconst (v := 0) dX11_workIfs_153 (by decide) ?_
  exact xt_sub [0, 1, 2] rfl (VX11_workIfs_154 H)
def DX11_workIfs_15 (h : Nat) (x0 : Nat) (x1 : Int32) (x2 : Int32) (M : Mem) (Q : Option Value → Mem → Prop) : Prop :=
  ok M x0 13 ∧ ∃ b2 : Nat, mR M x0 34 = some b2 ∧ ok M b2 21 ∧ vp_in (mI M x0 84) (mL M b2) ∧ (((40 * (mI M x0 84)) + (mAI M b2 (mI M x0 84 : Int32).toNatClampNeg)) ≤ x2 → ∀ M4 : Mem, M4 = wI M x0 111 0 →
  Q none M4) ∧
  (¬ (((40 * (mI M x0 84)) + (mAI M b2 (mI M x0 84 : Int32).toNatClampNeg)) ≤ x2) → ∃ b5 : Nat, mR M x0 112 = some b5 ∧ ok M b5 21 ∧ vp_in (x2 - (40 * (mI M x0 84))) (mL M b5) ∧ ∀ M7 : Mem, M7 = wAI M b5 (x2 - (40 * (mI M x0 84)) : Int32).toNatClampNeg 0 →
  ∃ b8 : Nat, mR M7 x0 38 = some b8 ∧ ok M7 b8 21 ∧ vp_in x2 (mL M7 b8) ∧ (¬ (mAI M7 b8 (x2 : Int32).toNatClampNeg) = 14 → DX11_workIfs_161 h x0 x1 x2 M7 Q) ∧
  ((mAI M7 b8 (x2 : Int32).toNatClampNeg) = 14 → ∀ M10 : Mem, M10 = wI M7 x0 111 0 →
  ∃ b11 : Nat, mR M10 x0 44 = some b11 ∧ ok M10 b11 21 ∧ vp_in x2 (mL M10 b11) ∧ ∃ b13 : Nat, mR M10 x0 45 = some b13 ∧ ok M10 b13 21 ∧ vp_in x2 (mL M10 b13) ∧ E h mdX11_work [.ref x0, .int (mAI M10 b11 (x2 : Int32).toNatClampNeg), .int (mAI M10 b13 (x2 : Int32).toNatClampNeg)] M10 (fun r M15 => mE M10 M15 → ∃ r16 : Int64, r = some (.long r16) ∧ ∃ b17 : Nat, mR M15 x0 46 = some b17 ∧ ok M15 b17 21 ∧ vp_in x2 (mL M15 b17) ∧ ∃ b19 : Nat, mR M15 x0 47 = some b19 ∧ ok M15 b19 21 ∧ vp_in x2 (mL M15 b19) ∧ E h mdX11_work [.ref x0, .int (mAI M15 b17 (x2 : Int32).toNatClampNeg), .int (mAI M15 b19 (x2 : Int32).toNatClampNeg)] M15 (fun r M21 => mE M15 M21 → ∃ r22 : Int64, r = some (.long r22) ∧ ∃ b23 : Nat, mR M21 x0 112 = some b23 ∧ ok M21 b23 21 ∧ vp_in (x2 - (40 * (mI M21 x0 84))) (mL M21 b23) ∧ ∀ M25 : Mem, M25 = wAI M21 b23 (x2 - (40 * (mI M21 x0 84)) : Int32).toNatClampNeg (mI M21 x0 111) →
  (¬ (mI M25 x0 111) = 0 → DX11_workIfs_153 h x0 x1 x2 x0 (mI M25 x0 88) M25 Q) ∧
  ((mI M25 x0 111) = 0 → ∃ b26 : Nat, mR M25 x0 48 = some b26 ∧ ok M25 b26 21 ∧ vp_in x2 (mL M25 b26) ∧ E h mdX11_holds [.int (mAI M25 b26 (x2 : Int32).toNatClampNeg), .long r16, .long r22] M25 (fun r M28 => mE M25 M28 → ∃ r29 : Int32, r = some (.int r29) ∧ (r29 = 0 → DX11_workIfs_153 h x0 x1 x2 x0 (mI M25 x0 88) M28 Q) ∧
  (¬ (r29 = 0) → DX11_workIfs_154 h x0 x1 x2 x0 (mI M25 x0 88) ((1 : Int32) <<< (x1 &&& 31)) M28 Q)))))))
set_option maxRecDepth 20000 in
set_option maxHeartbeats 2000000 in
theorem VX11_workIfs_15 {h : Nat} {x0 : Nat} {x1 : Int32} {x2 : Int32} {M : Mem} {Q : Option Value → Mem → Prop} (H : DX11_workIfs_15 h x0 x1 x2 M Q) : T (h + 1) mdX11_workIfs 15 [(0, .ref x0), (1, .int x1), (2, .int x2)] [] M Q := by
  unfold DX11_workIfs_15 at H
  refine xt_iload_n (j := 2) dX11_workIfs_15 rfl rfl ?_
  refine xt_bipush (v := 40) dX11_workIfs_16 (by decide) ?_
  refine xt_aload_n (j := 0) dX11_workIfs_18 rfl rfl ?_
  obtain ⟨ho1, H⟩ := H
  refine xt_getI dX11_workIfs_19 (flX11_742 rfl) ft_13_84 ho1.1 ho1.2 ?_
  refine xt_imul dX11_workIfs_22 ?_
  refine xt_aload_n (j := 0) dX11_workIfs_23 rfl rfl ?_
  obtain ⟨b2, hb, H⟩ := H
  refine xt_getR dX11_workIfs_24 (flX11_84 rfl) ft_13_34 ho1.1 ho1.2 hb ?_
  refine xt_aload_n (j := 0) dX11_workIfs_27 rfl rfl ?_
  refine xt_getI dX11_workIfs_28 (flX11_742 rfl) ft_13_84 ho1.1 ho1.2 ?_
  obtain ⟨ho3, H⟩ := H
  obtain ⟨hi, H⟩ := H
  refine xt_iald dX11_workIfs_31 ho3.1 ho3.2 hi ?_
  refine xt_iadd dX11_workIfs_32 ?_
  refine xt_icmp_ge (tgt := 167) dX11_workIfs_33 (by decide) (fun hc => ?_) (fun hc => ?_)
  · have H := H.1 hc
    refine xt_aload_n (j := 0) dX11_workIfs_167 rfl rfl ?_
    refine xt_iconst (v := 0) dX11_workIfs_168 (by decide) ?_
    obtain ⟨M4, eM4⟩ : ∃ z, z = wI M x0 111 0 := ⟨_, rfl⟩
    have H := H _ eM4
    refine xt_putI dX11_workIfs_169 (flX11_802 rfl) ty_13_111 rfl ho1.1 ho1.2 ?_
    have ho1 : ok M4 x0 13 := by rw [eM4]; exact ho1
    rw [← eM4]
    exact xt_return dX11_workIfs_172 rfl H
  · have H := H.2 hc
    refine xt_aload_n (j := 0) dX11_workIfs_36 rfl rfl ?_
    obtain ⟨b5, hb, H⟩ := H
    refine xt_getR dX11_workIfs_37 (flX11_285 rfl) ft_13_112 ho1.1 ho1.2 hb ?_
    refine xt_iload_n (j := 2) dX11_workIfs_40 rfl rfl ?_
    refine xt_bipush (v := 40) dX11_workIfs_41 (by decide) ?_
    refine xt_aload_n (j := 0) dX11_workIfs_43 rfl rfl ?_
    refine xt_getI dX11_workIfs_44 (flX11_742 rfl) ft_13_84 ho1.1 ho1.2 ?_
    refine xt_imul dX11_workIfs_47 ?_
    refine xt_isub dX11_workIfs_48 ?_
    refine xt_iconst (v := 0) dX11_workIfs_49 (by decide) ?_
    obtain ⟨ho6, H⟩ := H
    obtain ⟨hi, H⟩ := H
    obtain ⟨M7, eM7⟩ : ∃ z, z = wAI M b5 (x2 - (40 * (mI M x0 84)) : Int32).toNatClampNeg 0 := ⟨_, rfl⟩
    have H := H _ eM7
    refine xt_iast dX11_workIfs_50 ho6.1 ho6.2 hi ?_
    have ho1 : ok M7 x0 13 := by rw [eM7]; exact ho1
    rw [← eM7]
    refine xt_aload_n (j := 0) dX11_workIfs_51 rfl rfl ?_
    obtain ⟨b8, hb, H⟩ := H
    refine xt_getR dX11_workIfs_52 (flX11_96 rfl) ft_13_38 ho1.1 ho1.2 hb ?_
    refine xt_iload_n (j := 2) dX11_workIfs_55 rfl rfl ?_
    obtain ⟨ho9, H⟩ := H
    obtain ⟨hi, H⟩ := H
    refine xt_iald dX11_workIfs_56 ho9.1 ho9.2 hi ?_
    refine xt_bipush (v := 14) dX11_workIfs_57 (by decide) ?_
    refine xt_icmp_ne (tgt := 161) dX11_workIfs_59 (by decide) (fun hc => ?_) (fun hc => ?_)
    · have H := H.1 hc
      exact xt_sub [0, 1, 2] rfl (VX11_workIfs_161 H)
    · have H := H.2 hc
      refine xt_aload_n (j := 0) dX11_workIfs_62 rfl rfl ?_
      refine xt_iconst (v := 0) dX11_workIfs_63 (by decide) ?_
      obtain ⟨M10, eM10⟩ : ∃ z, z = wI M7 x0 111 0 := ⟨_, rfl⟩
      have H := H _ eM10
      refine xt_putI dX11_workIfs_64 (flX11_802 rfl) ty_13_111 rfl ho1.1 ho1.2 ?_
      have ho1 : ok M10 x0 13 := by rw [eM10]; exact ho1
      rw [← eM10]
      refine xt_aload_n (j := 0) dX11_workIfs_67 rfl rfl ?_
      refine xt_aload_n (j := 0) dX11_workIfs_68 rfl rfl ?_
      obtain ⟨b11, hb, H⟩ := H
      refine xt_getR dX11_workIfs_69 (flX11_114 rfl) ft_13_44 ho1.1 ho1.2 hb ?_
      refine xt_iload_n (j := 2) dX11_workIfs_72 rfl rfl ?_
      obtain ⟨ho12, H⟩ := H
      obtain ⟨hi, H⟩ := H
      refine xt_iald dX11_workIfs_73 ho12.1 ho12.2 hi ?_
      refine xt_aload_n (j := 0) dX11_workIfs_74 rfl rfl ?_
      obtain ⟨b13, hb, H⟩ := H
      refine xt_getR dX11_workIfs_75 (flX11_117 rfl) ft_13_45 ho1.1 ho1.2 hb ?_
      refine xt_iload_n (j := 2) dX11_workIfs_78 rfl rfl ?_
      obtain ⟨ho14, H⟩ := H
      obtain ⟨hi, H⟩ := H
      refine xt_iald dX11_workIfs_79 ho14.1 ho14.2 hi ?_
      refine xt_callV (h2 := h) (as := [.int (mAI M10 b11 (x2 : Int32).toNatClampNeg), .int (mAI M10 b13 (x2 : Int32).toNatClampNeg)]) (st := []) dX11_workIfs_80 (mlX11_809 rfl) rfl ho1.1 ⟨by rw [ho1.2]; rfl, by rw [ho1.2]; decide⟩ (by first | decide | (simp [Value.category]; done)) (Nat.le_refl _) H (fun r M15 HH hE => ?_)
      obtain ⟨r16, hr, H⟩ := HH hE
      subst hr
      have ho1 := ok_E ho1 hE
      show T _ _ _ _ [.long r16] _ _
      refine xt_lstore_n (lv' := [(3, .long r16), (0, .ref x0), (1, .int x1), (2, .int x2)]) dX11_workIfs_83 rfl (by decide) rfl ?_
      refine xt_aload_n (j := 1) dX11_workIfs_84 rfl rfl ?_
      refine xt_aload_n (j := 1) dX11_workIfs_85 rfl rfl ?_
      obtain ⟨b17, hb, H⟩ := H
      refine xt_getR dX11_workIfs_86 (flX11_120 rfl) ft_13_46 ho1.1 ho1.2 hb ?_
      refine xt_iload_n (j := 3) dX11_workIfs_89 rfl rfl ?_
      obtain ⟨ho18, H⟩ := H
      obtain ⟨hi, H⟩ := H
      refine xt_iald dX11_workIfs_90 ho18.1 ho18.2 hi ?_
      refine xt_aload_n (j := 1) dX11_workIfs_91 rfl rfl ?_
      obtain ⟨b19, hb, H⟩ := H
      refine xt_getR dX11_workIfs_92 (flX11_123 rfl) ft_13_47 ho1.1 ho1.2 hb ?_
      refine xt_iload_n (j := 3) dX11_workIfs_95 rfl rfl ?_
      obtain ⟨ho20, H⟩ := H
      obtain ⟨hi, H⟩ := H
      refine xt_iald dX11_workIfs_96 ho20.1 ho20.2 hi ?_
      refine xt_callV (h2 := h) (as := [.int (mAI M15 b17 (x2 : Int32).toNatClampNeg), .int (mAI M15 b19 (x2 : Int32).toNatClampNeg)]) (st := []) dX11_workIfs_97 (mlX11_809 rfl) rfl ho1.1 ⟨by rw [ho1.2]; rfl, by rw [ho1.2]; decide⟩ (by first | decide | (simp [Value.category]; done)) (Nat.le_refl _) H (fun r M21 HH hE => ?_)
      obtain ⟨r22, hr, H⟩ := HH hE
      subst hr
      have ho1 := ok_E ho1 hE
      show T _ _ _ _ [.long r22] _ _
      refine xt_lstore (lv' := [(5, .long r22), (3, .long r16), (0, .ref x0), (1, .int x1), (2, .int x2)]) dX11_workIfs_100 (by decide) rfl ?_
      refine xt_aload_n (j := 2) dX11_workIfs_102 rfl rfl ?_
      obtain ⟨b23, hb, H⟩ := H
      refine xt_getR dX11_workIfs_103 (flX11_285 rfl) ft_13_112 ho1.1 ho1.2 hb ?_
      refine xt_iload_n (j := 4) dX11_workIfs_106 rfl rfl ?_
      refine xt_bipush (v := 40) dX11_workIfs_107 (by decide) ?_
      refine xt_aload_n (j := 2) dX11_workIfs_109 rfl rfl ?_
      refine xt_getI dX11_workIfs_110 (flX11_742 rfl) ft_13_84 ho1.1 ho1.2 ?_
      refine xt_imul dX11_workIfs_113 ?_
      refine xt_isub dX11_workIfs_114 ?_
      refine xt_aload_n (j := 2) dX11_workIfs_115 rfl rfl ?_
      refine xt_getI dX11_workIfs_116 (flX11_802 rfl) ft_13_111 ho1.1 ho1.2 ?_
      obtain ⟨ho24, H⟩ := H
      obtain ⟨hi, H⟩ := H
      obtain ⟨M25, eM25⟩ : ∃ z, z = wAI M21 b23 (x2 - (40 * (mI M21 x0 84)) : Int32).toNatClampNeg (mI M21 x0 111) := ⟨_, rfl⟩
      have H := H _ eM25
      refine xt_iast dX11_workIfs_119 ho24.1 ho24.2 hi ?_
      have ho1 : ok M25 x0 13 := by rw [eM25]; exact ho1
      rw [← eM25]
      refine xt_aload_n (j := 2) dX11_workIfs_120 rfl rfl ?_
      refine xt_dup dX11_workIfs_121 rfl ?_
      refine xt_getI dX11_workIfs_122 (flX11_749 rfl) ft_13_88 ho1.1 ho1.2 ?_
      refine xt_aload_n (j := 2) dX11_workIfs_125 rfl rfl ?_
      refine xt_getI dX11_workIfs_126 (flX11_802 rfl) ft_13_111 ho1.1 ho1.2 ?_
      refine xt_if_ne (tgt := 153) dX11_workIfs_129 (by decide) (fun hc => ?_) (fun hc => ?_)
      · have H := H.1 hc
        exact xt_sub [2, 3, 4] rfl (VX11_workIfs_153 H)
      · have H := H.2 hc
        refine xt_aload_n (j := 2) dX11_workIfs_132 rfl rfl ?_
        obtain ⟨b26, hb, H⟩ := H
        refine xt_getR dX11_workIfs_133 (flX11_126 rfl) ft_13_48 ho1.1 ho1.2 hb ?_
        refine xt_iload_n (j := 4) dX11_workIfs_136 rfl rfl ?_
        obtain ⟨ho27, H⟩ := H
        obtain ⟨hi, H⟩ := H
        refine xt_iald dX11_workIfs_137 ho27.1 ho27.2 hi ?_
        refine xt_lload_n (j := 1) dX11_workIfs_138 rfl rfl ?_
        refine xt_lload (j := 0) dX11_workIfs_139 rfl ?_
        refine xt_callS (h2 := h) (as := [.int (mAI M25 b26 (x2 : Int32).toNatClampNeg), .long r16, .long r22]) (st := [.int (mI M25 x0 88), .ref x0]) dX11_workIfs_141 (mlX11_813 rfl) rfl (by first | decide | (simp [Value.category]; done)) (Nat.le_refl _) H (fun r M28 HH hE => ?_)
        obtain ⟨r29, hr, H⟩ := HH hE
        subst hr
        have ho1 := ok_E ho1 hE
        show T _ _ _ _ [.int r29, .int (mI M25 x0 88), .ref x0] _ _
        refine xt_if_eq (tgt := 153) dX11_workIfs_144 (by decide) (fun hc => ?_) (fun hc => ?_)
        · have H := H.1 hc
          exact xt_sub [2, 3, 4] rfl (VX11_workIfs_153 H)
        · have H := H.2 hc
          refine xt_iconst (v := 1) dX11_workIfs_147 (by decide) ?_
          refine xt_iload_n (j := 3) dX11_workIfs_148 rfl rfl ?_
          refine xt_ishl dX11_workIfs_149 ?_
          refine xt_goto (tgt := 154) dX11_workIfs_150 (by decide) ?_
          exact xt_sub [2, 3, 4] rfl (VX11_workIfs_154 H)
def DX11_workIfs_0 (h : Nat) (x0 : Nat) (M : Mem) (Q : Option Value → Mem → Prop) : Prop :=
  ok M x0 13 ∧ ∀ M2 : Mem, M2 = wI M x0 88 0 →
  T (h + 1) mdX11_workIfs 15 [(0, .ref x0), (1, .int 0), (2, .int (40 * (mI M2 x0 84)))] [] M2 Q
set_option maxRecDepth 20000 in
set_option maxHeartbeats 2000000 in
theorem VX11_workIfs_0 {h : Nat} {x0 : Nat} {M : Mem} {Q : Option Value → Mem → Prop} (H : DX11_workIfs_0 h x0 M Q) : T (h + 1) mdX11_workIfs 0 [(0, .ref x0)] [] M Q := by
  unfold DX11_workIfs_0 at H
  refine xt_aload_n (j := 0) dX11_workIfs_0 rfl rfl ?_
  refine xt_iconst (v := 0) dX11_workIfs_1 (by decide) ?_
  obtain ⟨ho1, H⟩ := H
  obtain ⟨M2, eM2⟩ : ∃ z, z = wI M x0 88 0 := ⟨_, rfl⟩
  have H := H _ eM2
  refine xt_putI dX11_workIfs_2 (flX11_749 rfl) ty_13_88 rfl ho1.1 ho1.2 ?_
  have ho1 : ok M2 x0 13 := by rw [eM2]; exact ho1
  rw [← eM2]
  refine xt_iconst (v := 0) dX11_workIfs_5 (by decide) ?_
  refine xt_istore_n (lv' := [(1, .int 0), (0, .ref x0)]) dX11_workIfs_6 rfl (by decide) rfl ?_
  refine xt_bipush (v := 40) dX11_workIfs_7 (by decide) ?_
  refine xt_aload_n (j := 1) dX11_workIfs_9 rfl rfl ?_
  refine xt_getI dX11_workIfs_10 (flX11_742 rfl) ft_13_84 ho1.1 ho1.2 ?_
  refine xt_imul dX11_workIfs_13 ?_
  refine xt_istore_n (lv' := [(2, .int (40 * (mI M2 x0 84))), (1, .int 0), (0, .ref x0)]) dX11_workIfs_14 rfl (by decide) rfl ?_
  exact xt_sub (lv' := [(0, .ref x0), (1, .int 0), (2, .int (40 * (mI M2 x0 84)))]) [2, 1, 0] rfl H
theorem KX11_workIfs {h : Nat} {x0 : Nat} {M : Mem} {Q : Option Value → Mem → Prop} (H : DX11_workIfs_0 h x0 M Q) : E (h + 1) mdX11_workIfs [.ref x0] M Q := E.of (by decide) (Nat.le_of_ble_eq_true rfl) (fun _ _ _ => trivial) (VX11_workIfs_0 H)
def DX11_emits_146 (h : Nat) (x0 : Nat) (x4 : Int32) (M : Mem) (Q : Option Value → Mem → Prop) : Prop :=
  ok M x0 13 ∧ ∀ M2 : Mem, M2 = wI M x0 113 ((mI M x0 113) ||| ((1 : Int32) <<< (x4 &&& 31))) →
  Q none M2
set_option maxRecDepth 20000 in
set_option maxHeartbeats 2000000 in
theorem VX11_emits_146 {h : Nat} {x0 : Nat} {x4 : Int32} {M : Mem} {Q : Option Value → Mem → Prop} (H : DX11_emits_146 h x0 x4 M Q) : T (h + 1) mdX11_emits 146 [(0, .ref x0), (4, .int x4)] [] M Q := by
  unfold DX11_emits_146 at H
  refine xt_aload_n (j := 0) dX11_emits_146 rfl rfl ?_
  refine xt_dup dX11_emits_147 rfl ?_
  obtain ⟨ho1, H⟩ := H
  refine xt_getI dX11_emits_148 (flX11_817 rfl) ft_13_113 ho1.1 ho1.2 ?_
  refine xt_iconst (v := 1) dX11_emits_151 (by decide) ?_
  refine xt_iload (j := 1) dX11_emits_152 rfl ?_
  refine xt_ishl dX11_emits_154 ?_
  refine xt_ior dX11_emits_155 ?_
  obtain ⟨M2, eM2⟩ : ∃ z, z = wI M x0 113 ((mI M x0 113) ||| ((1 : Int32) <<< (x4 &&& 31))) := ⟨_, rfl⟩
  have H := H _ eM2
  refine xt_putI dX11_emits_156 (flX11_817 rfl) ty_13_113 rfl ho1.1 ho1.2 ?_
  have ho1 : ok M2 x0 13 := by rw [eM2]; exact ho1
  rw [← eM2]
  exact xt_return dX11_emits_159 rfl H
def DX11_emits_145 (h : Nat) (x0 : Nat) (x4 : Int32) (s0 : Nat) (s1 : Int32) (s2 : Int64) (M : Mem) (Q : Option Value → Mem → Prop) : Prop :=
  ok M s0 23 ∧ vp_in s1 (mL M s0) ∧ ∀ M2 : Mem, M2 = wAJ M s0 (s1 : Int32).toNatClampNeg s2 →
  DX11_emits_146 h x0 x4 M2 Q
set_option maxRecDepth 20000 in
set_option maxHeartbeats 2000000 in
theorem VX11_emits_145 {h : Nat} {x0 : Nat} {x4 : Int32} {s0 : Nat} {s1 : Int32} {s2 : Int64} {M : Mem} {Q : Option Value → Mem → Prop} (H : DX11_emits_145 h x0 x4 s0 s1 s2 M Q) : T (h + 1) mdX11_emits 145 [(0, .ref x0), (4, .int x4)] [.long s2, .int s1, .ref s0] M Q := by
  unfold DX11_emits_145 at H
  obtain ⟨ho1, H⟩ := H
  obtain ⟨hi, H⟩ := H
  obtain ⟨M2, eM2⟩ : ∃ z, z = wAJ M s0 (s1 : Int32).toNatClampNeg s2 := ⟨_, rfl⟩
  have H := H _ eM2
  refine xt_last dX11_emits_145 ho1.1 ho1.2 hi ?_
  rw [← eM2]
  exact xt_sub [0, 1] rfl (VX11_emits_146 H)
def DX11_emits_110 (h : Nat) (x0 : Nat) (x4 : Int32) (s0 : Nat) (s1 : Int32) (M : Mem) (Q : Option Value → Mem → Prop) : Prop :=
  ok M s0 13 ∧ ∀ M2 : Mem, M2 = wI M s0 111 s1 →
  DX11_emits_146 h x0 x4 M2 Q
set_option maxRecDepth 20000 in
set_option maxHeartbeats 2000000 in
theorem VX11_emits_110 {h : Nat} {x0 : Nat} {x4 : Int32} {s0 : Nat} {s1 : Int32} {M : Mem} {Q : Option Value → Mem → Prop} (H : DX11_emits_110 h x0 x4 s0 s1 M Q) : T (h + 1) mdX11_emits 110 [(0, .ref x0), (4, .int x4)] [.int s1, .ref s0] M Q := by
  unfold DX11_emits_110 at H
  obtain ⟨ho1, H⟩ := H
  obtain ⟨M2, eM2⟩ : ∃ z, z = wI M s0 111 s1 := ⟨_, rfl⟩
  have H := H _ eM2
  refine xt_putI dX11_emits_110 (flX11_802 rfl) ty_13_111 rfl ho1.1 ho1.2 ?_
  rw [← eM2]
  refine xt_goto (tgt := 146) dX11_emits_113 (by decide) ?_
  exact xt_sub [0, 1] rfl (VX11_emits_146 H)
def DX11_emits_0 (h : Nat) (x0 : Nat) (x1 : Int32) (x2 : Int64) (M : Mem) (Q : Option Value → Mem → Prop) : Prop :=
  ok M x0 13 ∧ ∃ b2 : Nat, mR M x0 40 = some b2 ∧ ok M b2 21 ∧ vp_in x1 (mL M b2) ∧ ∃ b4 : Nat, mR M x0 13 = some b4 ∧ ok M b4 21 ∧ vp_in ((16 * (mI M x0 84)) + (mAI M b2 (x1 : Int32).toNatClampNeg)) (mL M b4) ∧ (¬ (mAI M b4 ((16 * (mI M x0 84)) + (mAI M b2 (x1 : Int32).toNatClampNeg) : Int32).toNatClampNeg) = 0 → (¬ (((mI M x0 113) >>> ((mAI M b2 (x1 : Int32).toNatClampNeg) &&& 31)) &&& 1) = 0 → (¬ (mAI M b4 ((16 * (mI M x0 84)) + (mAI M b2 (x1 : Int32).toNatClampNeg) : Int32).toNatClampNeg) = 1 → (¬ (mAI M b4 ((16 * (mI M x0 84)) + (mAI M b2 (x1 : Int32).toNatClampNeg) : Int32).toNatClampNeg) = 2 → ∃ b6 : Nat, mR M x0 109 = some b6 ∧ ∃ b7 : Nat, mR M x0 109 = some b7 ∧ ok M b7 23 ∧ vp_in (mAI M b2 (x1 : Int32).toNatClampNeg) (mL M b7) ∧ ((lg_cmp x2 (mAJ M b7 (mAI M b2 (x1 : Int32).toNatClampNeg : Int32).toNatClampNeg)) ≤ 0 → ∃ b9 : Nat, mR M x0 109 = some b9 ∧ ok M b9 23 ∧ vp_in (mAI M b2 (x1 : Int32).toNatClampNeg) (mL M b9) ∧ DX11_emits_145 h x0 (mAI M b2 (x1 : Int32).toNatClampNeg) b6 (mAI M b2 (x1 : Int32).toNatClampNeg) (mAJ M b9 (mAI M b2 (x1 : Int32).toNatClampNeg : Int32).toNatClampNeg) M Q) ∧
  (¬ ((lg_cmp x2 (mAJ M b7 (mAI M b2 (x1 : Int32).toNatClampNeg : Int32).toNatClampNeg)) ≤ 0) → DX11_emits_145 h x0 (mAI M b2 (x1 : Int32).toNatClampNeg) b6 (mAI M b2 (x1 : Int32).toNatClampNeg) x2 M Q)) ∧
  ((mAI M b4 ((16 * (mI M x0 84)) + (mAI M b2 (x1 : Int32).toNatClampNeg) : Int32).toNatClampNeg) = 2 → ∃ b11 : Nat, mR M x0 109 = some b11 ∧ ok M b11 23 ∧ vp_in (mAI M b2 (x1 : Int32).toNatClampNeg) (mL M b11) ∧ vp_in (mAI M b2 (x1 : Int32).toNatClampNeg) (mL M b11) ∧ ∀ M13 : Mem, M13 = wAJ M b11 (mAI M b2 (x1 : Int32).toNatClampNeg : Int32).toNatClampNeg ((mAJ M b11 (mAI M b2 (x1 : Int32).toNatClampNeg : Int32).toNatClampNeg) + x2) →
  ∃ b14 : Nat, mR M13 x0 109 = some b14 ∧ ok M13 b14 23 ∧ vp_in (mAI M b2 (x1 : Int32).toNatClampNeg) (mL M13 b14) ∧ E h mdX11_in [.long (mAJ M13 b14 (mAI M b2 (x1 : Int32).toNatClampNeg : Int32).toNatClampNeg), .long (-1000000000), .long 1000000000] M13 (fun r M16 => mE M13 M16 → ∃ r17 : Int32, r = some (.int r17) ∧ (r17 = 0 → DX11_emits_110 h x0 (mAI M b2 (x1 : Int32).toNatClampNeg) x0 2 M16 Q) ∧
  (¬ (r17 = 0) → DX11_emits_110 h x0 (mAI M b2 (x1 : Int32).toNatClampNeg) x0 0 M16 Q)))) ∧
  ((mAI M b4 ((16 * (mI M x0 84)) + (mAI M b2 (x1 : Int32).toNatClampNeg) : Int32).toNatClampNeg) = 1 → ∀ M18 : Mem, M18 = wI M x0 111 3 →
  DX11_emits_146 h x0 (mAI M b2 (x1 : Int32).toNatClampNeg) M18 Q)) ∧
  ((((mI M x0 113) >>> ((mAI M b2 (x1 : Int32).toNatClampNeg) &&& 31)) &&& 1) = 0 → ∃ b19 : Nat, mR M x0 109 = some b19 ∧ ok M b19 23 ∧ vp_in (mAI M b2 (x1 : Int32).toNatClampNeg) (mL M b19) ∧ ∀ M21 : Mem, M21 = wAJ M b19 (mAI M b2 (x1 : Int32).toNatClampNeg : Int32).toNatClampNeg x2 →
  DX11_emits_146 h x0 (mAI M b2 (x1 : Int32).toNatClampNeg) M21 Q)) ∧
  ((mAI M b4 ((16 * (mI M x0 84)) + (mAI M b2 (x1 : Int32).toNatClampNeg) : Int32).toNatClampNeg) = 0 → Q none M)
set_option maxRecDepth 20000 in
set_option maxHeartbeats 2000000 in
theorem VX11_emits_0 {h : Nat} {x0 : Nat} {x1 : Int32} {x2 : Int64} {M : Mem} {Q : Option Value → Mem → Prop} (H : DX11_emits_0 h x0 x1 x2 M Q) : T (h + 1) mdX11_emits 0 [(0, .ref x0), (1, .int x1), (2, .long x2)] [] M Q := by
  unfold DX11_emits_0 at H
  refine xt_aload_n (j := 0) dX11_emits_0 rfl rfl ?_
  obtain ⟨ho1, H⟩ := H
  obtain ⟨b2, hb, H⟩ := H
  refine xt_getR dX11_emits_1 (flX11_102 rfl) ft_13_40 ho1.1 ho1.2 hb ?_
  refine xt_iload_n (j := 1) dX11_emits_4 rfl rfl ?_
  obtain ⟨ho3, H⟩ := H
  obtain ⟨hi, H⟩ := H
  refine xt_iald dX11_emits_5 ho3.1 ho3.2 hi ?_
  refine xt_istore (lv' := [(4, .int (mAI M b2 (x1 : Int32).toNatClampNeg)), (0, .ref x0), (1, .int x1), (2, .long x2)]) dX11_emits_6 (by decide) rfl ?_
  refine xt_aload_n (j := 1) dX11_emits_8 rfl rfl ?_
  obtain ⟨b4, hb, H⟩ := H
  refine xt_getR dX11_emits_9 (flX11_38 rfl) ft_13_13 ho1.1 ho1.2 hb ?_
  refine xt_bipush (v := 16) dX11_emits_12 (by decide) ?_
  refine xt_aload_n (j := 1) dX11_emits_14 rfl rfl ?_
  refine xt_getI dX11_emits_15 (flX11_742 rfl) ft_13_84 ho1.1 ho1.2 ?_
  refine xt_imul dX11_emits_18 ?_
  refine xt_iload (j := 0) dX11_emits_19 rfl ?_
  refine xt_iadd dX11_emits_21 ?_
  obtain ⟨ho5, H⟩ := H
  obtain ⟨hi, H⟩ := H
  refine xt_iald dX11_emits_22 ho5.1 ho5.2 hi ?_
  refine xt_istore (lv' := [(5, .int (mAI M b4 ((16 * (mI M x0 84)) + (mAI M b2 (x1 : Int32).toNatClampNeg) : Int32).toNatClampNeg)), (4, .int (mAI M b2 (x1 : Int32).toNatClampNeg)), (0, .ref x0), (1, .int x1), (2, .long x2)]) dX11_emits_23 (by decide) rfl ?_
  refine xt_iload (j := 0) dX11_emits_25 rfl ?_
  refine xt_if_ne (tgt := 31) dX11_emits_27 (by decide) (fun hc => ?_) (fun hc => ?_)
  · have H := H.1 hc
    refine xt_aload_n (j := 2) dX11_emits_31 rfl rfl ?_
    refine xt_getI dX11_emits_32 (flX11_817 rfl) ft_13_113 ho1.1 ho1.2 ?_
    refine xt_iload (j := 1) dX11_emits_35 rfl ?_
    refine xt_ishr dX11_emits_37 ?_
    refine xt_iconst (v := 1) dX11_emits_38 (by decide) ?_
    refine xt_iand dX11_emits_39 ?_
    refine xt_if_ne (tgt := 54) dX11_emits_40 (by decide) (fun hc => ?_) (fun hc => ?_)
    · have H := H.1 hc
      refine xt_iload (j := 0) dX11_emits_54 rfl ?_
      refine xt_iconst (v := 1) dX11_emits_56 (by decide) ?_
      refine xt_icmp_ne (tgt := 68) dX11_emits_57 (by decide) (fun hc => ?_) (fun hc => ?_)
      · have H := H.1 hc
        refine xt_iload (j := 0) dX11_emits_68 rfl ?_
        refine xt_iconst (v := 2) dX11_emits_70 (by decide) ?_
        refine xt_icmp_ne (tgt := 116) dX11_emits_71 (by decide) (fun hc => ?_) (fun hc => ?_)
        · have H := H.1 hc
          refine xt_aload_n (j := 2) dX11_emits_116 rfl rfl ?_
          obtain ⟨b6, hb, H⟩ := H
          refine xt_getR dX11_emits_117 (flX11_279 rfl) ft_13_109 ho1.1 ho1.2 hb ?_
          refine xt_iload (j := 1) dX11_emits_120 rfl ?_
          refine xt_lload_n (j := 4) dX11_emits_122 rfl rfl ?_
          refine xt_aload_n (j := 2) dX11_emits_123 rfl rfl ?_
          obtain ⟨b7, hb, H⟩ := H
          refine xt_getR dX11_emits_124 (flX11_279 rfl) ft_13_109 ho1.1 ho1.2 hb ?_
          refine xt_iload (j := 1) dX11_emits_127 rfl ?_
          obtain ⟨ho8, H⟩ := H
          obtain ⟨hi, H⟩ := H
          refine xt_lald dX11_emits_129 ho8.1 ho8.2 hi ?_
          refine xt_lcmp dX11_emits_130 ?_
          refine xt_if_le (tgt := 138) dX11_emits_131 (by decide) (fun hc => ?_) (fun hc => ?_)
          · have H := H.1 hc
            refine xt_aload_n (j := 2) dX11_emits_138 rfl rfl ?_
            obtain ⟨b9, hb, H⟩ := H
            refine xt_getR dX11_emits_139 (flX11_279 rfl) ft_13_109 ho1.1 ho1.2 hb ?_
            refine xt_iload (j := 1) dX11_emits_142 rfl ?_
            obtain ⟨ho10, H⟩ := H
            obtain ⟨hi, H⟩ := H
            refine xt_lald dX11_emits_144 ho10.1 ho10.2 hi ?_
            exact xt_sub [2, 1] rfl (VX11_emits_145 H)
          · have H := H.2 hc
            refine xt_lload_n (j := 4) dX11_emits_134 rfl rfl ?_
            refine xt_goto (tgt := 145) dX11_emits_135 (by decide) ?_
            exact xt_sub [2, 1] rfl (VX11_emits_145 H)
        · have H := H.2 hc
          refine xt_aload_n (j := 2) dX11_emits_74 rfl rfl ?_
          obtain ⟨b11, hb, H⟩ := H
          refine xt_getR dX11_emits_75 (flX11_279 rfl) ft_13_109 ho1.1 ho1.2 hb ?_
          refine xt_iload (j := 1) dX11_emits_78 rfl ?_
          refine xt_dup2 dX11_emits_80 rfl rfl ?_
          obtain ⟨ho12, H⟩ := H
          obtain ⟨hi, H⟩ := H
          refine xt_lald dX11_emits_81 ho12.1 ho12.2 hi ?_
          refine xt_lload_n (j := 4) dX11_emits_82 rfl rfl ?_
          refine xt_ladd dX11_emits_83 ?_
          obtain ⟨hi, H⟩ := H
          obtain ⟨M13, eM13⟩ : ∃ z, z = wAJ M b11 (mAI M b2 (x1 : Int32).toNatClampNeg : Int32).toNatClampNeg ((mAJ M b11 (mAI M b2 (x1 : Int32).toNatClampNeg : Int32).toNatClampNeg) + x2) := ⟨_, rfl⟩
          have H := H _ eM13
          refine xt_last dX11_emits_84 ho12.1 ho12.2 hi ?_
          have ho1 : ok M13 x0 13 := by rw [eM13]; exact ho1
          rw [← eM13]
          refine xt_aload_n (j := 2) dX11_emits_85 rfl rfl ?_
          refine xt_aload_n (j := 2) dX11_emits_86 rfl rfl ?_
          obtain ⟨b14, hb, H⟩ := H
          refine xt_getR dX11_emits_87 (flX11_279 rfl) ft_13_109 ho1.1 ho1.2 hb ?_
          refine xt_iload (j := 1) dX11_emits_90 rfl ?_
          obtain ⟨ho15, H⟩ := H
          obtain ⟨hi, H⟩ := H
          refine xt_lald dX11_emits_92 ho15.1 ho15.2 hi ?_
          refine xt_ldc2 (v := -1000000000) dX11_emits_93 (ctX11_798 rfl) ?_
          refine xt_ldc2 (v := 1000000000) dX11_emits_96 (ctX11_800 rfl) ?_
          refine xt_callS (h2 := h) (as := [.long (mAJ M13 b14 (mAI M b2 (x1 : Int32).toNatClampNeg : Int32).toNatClampNeg), .long (-1000000000), .long 1000000000]) (st := [.ref x0]) dX11_emits_99 (mlX11_332 rfl) rfl (by first | decide | (simp [Value.category]; done)) (Nat.le_refl _) H (fun r M16 HH hE => ?_)
          obtain ⟨r17, hr, H⟩ := HH hE
          subst hr
          have ho1 := ok_E ho1 hE
          show T _ _ _ _ [.int r17, .ref x0] _ _
          refine xt_if_eq (tgt := 109) dX11_emits_102 (by decide) (fun hc => ?_) (fun hc => ?_)
          · have H := H.1 hc
            refine xt_iconst (v := 2) dX11_emits_109 (by decide) ?_
            exact xt_sub [2, 1] rfl (VX11_emits_110 H)
          · have H := H.2 hc
            refine xt_iconst (v := 0) dX11_emits_105 (by decide) ?_
            refine xt_goto (tgt := 110) dX11_emits_106 (by decide) ?_
            exact xt_sub [2, 1] rfl (VX11_emits_110 H)
      · have H := H.2 hc
        refine xt_aload_n (j := 2) dX11_emits_60 rfl rfl ?_
        refine xt_iconst (v := 3) dX11_emits_61 (by decide) ?_
        obtain ⟨M18, eM18⟩ : ∃ z, z = wI M x0 111 3 := ⟨_, rfl⟩
        have H := H _ eM18
        refine xt_putI dX11_emits_62 (flX11_802 rfl) ty_13_111 rfl ho1.1 ho1.2 ?_
        have ho1 : ok M18 x0 13 := by rw [eM18]; exact ho1
        rw [← eM18]
        refine xt_goto (tgt := 146) dX11_emits_65 (by decide) ?_
        exact xt_sub [2, 1] rfl (VX11_emits_146 H)
    · have H := H.2 hc
      refine xt_aload_n (j := 2) dX11_emits_43 rfl rfl ?_
      obtain ⟨b19, hb, H⟩ := H
      refine xt_getR dX11_emits_44 (flX11_279 rfl) ft_13_109 ho1.1 ho1.2 hb ?_
      refine xt_iload (j := 1) dX11_emits_47 rfl ?_
      refine xt_lload_n (j := 4) dX11_emits_49 rfl rfl ?_
      obtain ⟨ho20, H⟩ := H
      obtain ⟨hi, H⟩ := H
      obtain ⟨M21, eM21⟩ : ∃ z, z = wAJ M b19 (mAI M b2 (x1 : Int32).toNatClampNeg : Int32).toNatClampNeg x2 := ⟨_, rfl⟩
      have H := H _ eM21
      refine xt_last dX11_emits_50 ho20.1 ho20.2 hi ?_
      have ho1 : ok M21 x0 13 := by rw [eM21]; exact ho1
      rw [← eM21]
      refine xt_goto (tgt := 146) dX11_emits_51 (by decide) ?_
      exact xt_sub [2, 1] rfl (VX11_emits_146 H)
  · have H := H.2 hc
    exact xt_return dX11_emits_30 rfl H
theorem KX11_emits {h : Nat} {x0 : Nat} {x1 : Int32} {x2 : Int64} {M : Mem} {Q : Option Value → Mem → Prop} (H : DX11_emits_0 h x0 x1 x2 M Q) : E (h + 1) mdX11_emits [.ref x0, .int x1, .long x2] M Q := E.of (by decide) (Nat.le_of_ble_eq_true rfl) (fun _ _ _ => trivial) (VX11_emits_0 H)
def DX11_workParts_212 (h : Nat) (x0 : Nat) (x1 : Int32) (M : Mem) (Q : Option Value → Mem → Prop) : Prop :=
  T (h + 1) mdX11_workParts 18 [(0, .ref x0), (1, .int (x1 + 1))] [] M Q
set_option maxRecDepth 20000 in
set_option maxHeartbeats 2000000 in
theorem VX11_workParts_212 {h : Nat} {x0 : Nat} {x1 : Int32} {M : Mem} {Q : Option Value → Mem → Prop} (H : DX11_workParts_212 h x0 x1 M Q) : T (h + 1) mdX11_workParts 212 [(0, .ref x0), (1, .int x1)] [] M Q := by
  unfold DX11_workParts_212 at H
  refine xt_iinc (j := 1) (v := x1 + 1) (lv' := [(1, .int (x1 + 1)), (0, .ref x0)]) dX11_workParts_212 rfl (by rfl) (by decide) rfl ?_
  refine xt_goto (tgt := 18) dX11_workParts_215 (by decide) ?_
  exact xt_sub (lv' := [(0, .ref x0), (1, .int (x1 + 1))]) [1, 0] rfl H
def DX11_workParts_195 (h : Nat) (x0 : Nat) (x1 : Int32) (M : Mem) (Q : Option Value → Mem → Prop) : Prop :=
  ok M x0 13 ∧ ((mI M x0 111) ≤ 0 → DX11_workParts_212 h x0 x1 M Q) ∧
  (¬ ((mI M x0 111) ≤ 0) → Q (some (.int (x1 - (40 * (mI M x0 84))))) M)
set_option maxRecDepth 20000 in
set_option maxHeartbeats 2000000 in
theorem VX11_workParts_195 {h : Nat} {x0 : Nat} {x1 : Int32} {M : Mem} {Q : Option Value → Mem → Prop} (H : DX11_workParts_195 h x0 x1 M Q) : T (h + 1) mdX11_workParts 195 [(0, .ref x0), (1, .int x1)] [] M Q := by
  unfold DX11_workParts_195 at H
  refine xt_aload_n (j := 0) dX11_workParts_195 rfl rfl ?_
  obtain ⟨ho1, H⟩ := H
  refine xt_getI dX11_workParts_196 (flX11_802 rfl) ft_13_111 ho1.1 ho1.2 ?_
  refine xt_if_le (tgt := 212) dX11_workParts_199 (by decide) (fun hc => ?_) (fun hc => ?_)
  · have H := H.1 hc
    exact xt_sub [0, 1] rfl (VX11_workParts_212 H)
  · have H := H.2 hc
    refine xt_iload_n (j := 1) dX11_workParts_202 rfl rfl ?_
    refine xt_bipush (v := 40) dX11_workParts_203 (by decide) ?_
    refine xt_aload_n (j := 0) dX11_workParts_205 rfl rfl ?_
    refine xt_getI dX11_workParts_206 (flX11_742 rfl) ft_13_84 ho1.1 ho1.2 ?_
    refine xt_imul dX11_workParts_209 ?_
    refine xt_isub dX11_workParts_210 ?_
    exact xt_ireturn dX11_workParts_211 rfl H
def DX11_workParts_148 (h : Nat) (x0 : Nat) (x1 : Int32) (M : Mem) (Q : Option Value → Mem → Prop) : Prop :=
  ok M x0 13 ∧ ∃ b2 : Nat, mR M x0 38 = some b2 ∧ ok M b2 21 ∧ vp_in x1 (mL M b2) ∧ (¬ (mAI M b2 (x1 : Int32).toNatClampNeg) = 15 → DX11_workParts_195 h x0 x1 M Q) ∧
  ((mAI M b2 (x1 : Int32).toNatClampNeg) = 15 → ∃ b4 : Nat, mR M x0 44 = some b4 ∧ ok M b4 21 ∧ vp_in x1 (mL M b4) ∧ ∃ b6 : Nat, mR M x0 45 = some b6 ∧ ok M b6 21 ∧ vp_in x1 (mL M b6) ∧ E h mdX11_work [.ref x0, .int (mAI M b4 (x1 : Int32).toNatClampNeg), .int (mAI M b6 (x1 : Int32).toNatClampNeg)] M (fun r M8 => mE M M8 → ∃ r9 : Int64, r = some (.long r9) ∧ (¬ (mI M8 x0 111) = 0 → DX11_workParts_195 h x0 x1 M8 Q) ∧
  ((mI M8 x0 111) = 0 → ∃ b10 : Nat, mR M8 x0 110 = some b10 ∧ ∃ b11 : Nat, mR M8 x0 40 = some b11 ∧ ok M8 b11 21 ∧ vp_in x1 (mL M8 b11) ∧ ok M8 b10 23 ∧ vp_in (mAI M8 b11 (x1 : Int32).toNatClampNeg) (mL M8 b10) ∧ ∀ M14 : Mem, M14 = wAJ M8 b10 (mAI M8 b11 (x1 : Int32).toNatClampNeg : Int32).toNatClampNeg r9 →
  DX11_workParts_195 h x0 x1 M14 Q)))
set_option maxRecDepth 20000 in
set_option maxHeartbeats 2000000 in
theorem VX11_workParts_148 {h : Nat} {x0 : Nat} {x1 : Int32} {M : Mem} {Q : Option Value → Mem → Prop} (H : DX11_workParts_148 h x0 x1 M Q) : T (h + 1) mdX11_workParts 148 [(0, .ref x0), (1, .int x1)] [] M Q := by
  unfold DX11_workParts_148 at H
  refine xt_aload_n (j := 0) dX11_workParts_148 rfl rfl ?_
  obtain ⟨ho1, H⟩ := H
  obtain ⟨b2, hb, H⟩ := H
  refine xt_getR dX11_workParts_149 (flX11_96 rfl) ft_13_38 ho1.1 ho1.2 hb ?_
  refine xt_iload_n (j := 1) dX11_workParts_152 rfl rfl ?_
  obtain ⟨ho3, H⟩ := H
  obtain ⟨hi, H⟩ := H
  refine xt_iald dX11_workParts_153 ho3.1 ho3.2 hi ?_
  refine xt_bipush (v := 15) dX11_workParts_154 (by decide) ?_
  refine xt_icmp_ne (tgt := 195) dX11_workParts_156 (by decide) (fun hc => ?_) (fun hc => ?_)
  · have H := H.1 hc
    exact xt_sub [0, 1] rfl (VX11_workParts_195 H)
  · have H := H.2 hc
    refine xt_aload_n (j := 0) dX11_workParts_159 rfl rfl ?_
    refine xt_aload_n (j := 0) dX11_workParts_160 rfl rfl ?_
    obtain ⟨b4, hb, H⟩ := H
    refine xt_getR dX11_workParts_161 (flX11_114 rfl) ft_13_44 ho1.1 ho1.2 hb ?_
    refine xt_iload_n (j := 1) dX11_workParts_164 rfl rfl ?_
    obtain ⟨ho5, H⟩ := H
    obtain ⟨hi, H⟩ := H
    refine xt_iald dX11_workParts_165 ho5.1 ho5.2 hi ?_
    refine xt_aload_n (j := 0) dX11_workParts_166 rfl rfl ?_
    obtain ⟨b6, hb, H⟩ := H
    refine xt_getR dX11_workParts_167 (flX11_117 rfl) ft_13_45 ho1.1 ho1.2 hb ?_
    refine xt_iload_n (j := 1) dX11_workParts_170 rfl rfl ?_
    obtain ⟨ho7, H⟩ := H
    obtain ⟨hi, H⟩ := H
    refine xt_iald dX11_workParts_171 ho7.1 ho7.2 hi ?_
    refine xt_callV (h2 := h) (as := [.int (mAI M b4 (x1 : Int32).toNatClampNeg), .int (mAI M b6 (x1 : Int32).toNatClampNeg)]) (st := []) dX11_workParts_172 (mlX11_809 rfl) rfl ho1.1 ⟨by rw [ho1.2]; rfl, by rw [ho1.2]; decide⟩ (by first | decide | (simp [Value.category]; done)) (Nat.le_refl _) H (fun r M8 HH hE => ?_)
    obtain ⟨r9, hr, H⟩ := HH hE
    subst hr
    have ho1 := ok_E ho1 hE
    show T _ _ _ _ [.long r9] _ _
    refine xt_lstore_n (lv' := [(2, .long r9), (0, .ref x0), (1, .int x1)]) dX11_workParts_175 rfl (by decide) rfl ?_
    refine xt_aload_n (j := 1) dX11_workParts_176 rfl rfl ?_
    refine xt_getI dX11_workParts_177 (flX11_802 rfl) ft_13_111 ho1.1 ho1.2 ?_
    refine xt_if_ne (tgt := 195) dX11_workParts_180 (by decide) (fun hc => ?_) (fun hc => ?_)
    · have H := H.1 hc
      exact xt_sub [1, 2] rfl (VX11_workParts_195 H)
    · have H := H.2 hc
      refine xt_aload_n (j := 1) dX11_workParts_183 rfl rfl ?_
      obtain ⟨b10, hb, H⟩ := H
      refine xt_getR dX11_workParts_184 (flX11_282 rfl) ft_13_110 ho1.1 ho1.2 hb ?_
      refine xt_aload_n (j := 1) dX11_workParts_187 rfl rfl ?_
      obtain ⟨b11, hb, H⟩ := H
      refine xt_getR dX11_workParts_188 (flX11_102 rfl) ft_13_40 ho1.1 ho1.2 hb ?_
      refine xt_iload_n (j := 2) dX11_workParts_191 rfl rfl ?_
      obtain ⟨ho12, H⟩ := H
      obtain ⟨hi, H⟩ := H
      refine xt_iald dX11_workParts_192 ho12.1 ho12.2 hi ?_
      refine xt_lload_n (j := 0) dX11_workParts_193 rfl rfl ?_
      obtain ⟨ho13, H⟩ := H
      obtain ⟨hi, H⟩ := H
      obtain ⟨M14, eM14⟩ : ∃ z, z = wAJ M8 b10 (mAI M8 b11 (x1 : Int32).toNatClampNeg : Int32).toNatClampNeg r9 := ⟨_, rfl⟩
      have H := H _ eM14
      refine xt_last dX11_workParts_194 ho13.1 ho13.2 hi ?_
      have ho1 : ok M14 x0 13 := by rw [eM14]; exact ho1
      rw [← eM14]
      exact xt_sub [1, 2] rfl (VX11_workParts_195 H)
def DX11_workParts_145 (h : Nat) (x0 : Nat) (x1 : Int32) (M : Mem) (Q : Option Value → Mem → Prop) : Prop :=
  DX11_workParts_195 h x0 x1 M Q
set_option maxRecDepth 20000 in
set_option maxHeartbeats 2000000 in
theorem VX11_workParts_145 {h : Nat} {x0 : Nat} {x1 : Int32} {M : Mem} {Q : Option Value → Mem → Prop} (H : DX11_workParts_145 h x0 x1 M Q) : T (h + 1) mdX11_workParts 145 [(0, .ref x0), (1, .int x1)] [] M Q := by
  unfold DX11_workParts_145 at H
  refine xt_goto (tgt := 195) dX11_workParts_145 (by decide) ?_
  exact xt_sub [0, 1] rfl (VX11_workParts_195 H)
def DX11_workParts_18 (h : Nat) (x0 : Nat) (x1 : Int32) (M : Mem) (Q : Option Value → Mem → Prop) : Prop :=
  ok M x0 13 ∧ ∃ b2 : Nat, mR M x0 34 = some b2 ∧ ok M b2 21 ∧ vp_in (mI M x0 84) (mL M b2) ∧ (((40 * (mI M x0 84)) + (mAI M b2 (mI M x0 84 : Int32).toNatClampNeg)) ≤ x1 → Q (some (.int (-1))) M) ∧
  (¬ (((40 * (mI M x0 84)) + (mAI M b2 (mI M x0 84 : Int32).toNatClampNeg)) ≤ x1) → ∃ b4 : Nat, mR M x0 77 = some b4 ∧ ∃ b5 : Nat, mR M x0 72 = some b5 ∧ ok M b5 21 ∧ vp_in x1 (mL M b5) ∧ ok M b4 21 ∧ vp_in ((mAI M b5 (x1 : Int32).toNatClampNeg) - (700 * (mI M x0 84))) (mL M b4) ∧ (¬ (mAI M b4 ((mAI M b5 (x1 : Int32).toNatClampNeg) - (700 * (mI M x0 84)) : Int32).toNatClampNeg) = 1 → DX11_workParts_212 h x0 x1 M Q) ∧
  ((mAI M b4 ((mAI M b5 (x1 : Int32).toNatClampNeg) - (700 * (mI M x0 84)) : Int32).toNatClampNeg) = 1 → ∃ b8 : Nat, mR M x0 38 = some b8 ∧ ok M b8 21 ∧ vp_in x1 (mL M b8) ∧ (¬ (mAI M b8 (x1 : Int32).toNatClampNeg) = 14 → ∃ b10 : Nat, mR M x0 38 = some b10 ∧ ok M b10 21 ∧ vp_in x1 (mL M b10) ∧ (¬ (mAI M b10 (x1 : Int32).toNatClampNeg) = 3 → DX11_workParts_148 h x0 x1 M Q) ∧
  ((mAI M b10 (x1 : Int32).toNatClampNeg) = 3 → ∃ b12 : Nat, mR M x0 45 = some b12 ∧ ok M b12 21 ∧ vp_in x1 (mL M b12) ∧ ((mAI M b12 (x1 : Int32).toNatClampNeg) = (-1) → DX11_workParts_148 h x0 x1 M Q) ∧
  (¬ ((mAI M b12 (x1 : Int32).toNatClampNeg) = (-1)) → ∃ b14 : Nat, mR M x0 44 = some b14 ∧ ok M b14 21 ∧ vp_in x1 (mL M b14) ∧ ∃ b16 : Nat, mR M x0 45 = some b16 ∧ ok M b16 21 ∧ vp_in x1 (mL M b16) ∧ E h mdX11_work [.ref x0, .int (mAI M b14 (x1 : Int32).toNatClampNeg), .int (mAI M b16 (x1 : Int32).toNatClampNeg)] M (fun r M18 => mE M M18 → ∃ r19 : Int64, r = some (.long r19) ∧ (¬ (mI M18 x0 111) = 0 → DX11_workParts_145 h x0 x1 M18 Q) ∧
  ((mI M18 x0 111) = 0 → E h mdX11_emits [.ref x0, .int x1, .long r19] M18 (fun r M20 => mE M18 M20 → r = none ∧ DX11_workParts_145 h x0 x1 M20 Q)))))) ∧
  ((mAI M b8 (x1 : Int32).toNatClampNeg) = 14 → ∃ b21 : Nat, mR M x0 112 = some b21 ∧ ok M b21 21 ∧ vp_in (x1 - (40 * (mI M x0 84))) (mL M b21) ∧ ∀ M23 : Mem, M23 = wI M x0 111 (mAI M b21 (x1 - (40 * (mI M x0 84)) : Int32).toNatClampNeg) →
  DX11_workParts_195 h x0 x1 M23 Q)))
set_option maxRecDepth 20000 in
set_option maxHeartbeats 2000000 in
theorem VX11_workParts_18 {h : Nat} {x0 : Nat} {x1 : Int32} {M : Mem} {Q : Option Value → Mem → Prop} (H : DX11_workParts_18 h x0 x1 M Q) : T (h + 1) mdX11_workParts 18 [(0, .ref x0), (1, .int x1)] [] M Q := by
  unfold DX11_workParts_18 at H
  refine xt_iload_n (j := 1) dX11_workParts_18 rfl rfl ?_
  refine xt_bipush (v := 40) dX11_workParts_19 (by decide) ?_
  refine xt_aload_n (j := 0) dX11_workParts_21 rfl rfl ?_
  obtain ⟨ho1, H⟩ := H
  refine xt_getI dX11_workParts_22 (flX11_742 rfl) ft_13_84 ho1.1 ho1.2 ?_
  refine xt_imul dX11_workParts_25 ?_
  refine xt_aload_n (j := 0) dX11_workParts_26 rfl rfl ?_
  obtain ⟨b2, hb, H⟩ := H
  refine xt_getR dX11_workParts_27 (flX11_84 rfl) ft_13_34 ho1.1 ho1.2 hb ?_
  refine xt_aload_n (j := 0) dX11_workParts_30 rfl rfl ?_
  refine xt_getI dX11_workParts_31 (flX11_742 rfl) ft_13_84 ho1.1 ho1.2 ?_
  obtain ⟨ho3, H⟩ := H
  obtain ⟨hi, H⟩ := H
  refine xt_iald dX11_workParts_34 ho3.1 ho3.2 hi ?_
  refine xt_iadd dX11_workParts_35 ?_
  refine xt_icmp_ge (tgt := 218) dX11_workParts_36 (by decide) (fun hc => ?_) (fun hc => ?_)
  · have H := H.1 hc
    refine xt_iconst (v := -1) dX11_workParts_218 (by decide) ?_
    exact xt_ireturn dX11_workParts_219 rfl H
  · have H := H.2 hc
    refine xt_aload_n (j := 0) dX11_workParts_39 rfl rfl ?_
    obtain ⟨b4, hb, H⟩ := H
    refine xt_getR dX11_workParts_40 (flX11_207 rfl) ft_13_77 ho1.1 ho1.2 hb ?_
    refine xt_aload_n (j := 0) dX11_workParts_43 rfl rfl ?_
    obtain ⟨b5, hb, H⟩ := H
    refine xt_getR dX11_workParts_44 (flX11_192 rfl) ft_13_72 ho1.1 ho1.2 hb ?_
    refine xt_iload_n (j := 1) dX11_workParts_47 rfl rfl ?_
    obtain ⟨ho6, H⟩ := H
    obtain ⟨hi, H⟩ := H
    refine xt_iald dX11_workParts_48 ho6.1 ho6.2 hi ?_
    refine xt_sipush (v := 700) dX11_workParts_49 (by decide) ?_
    refine xt_aload_n (j := 0) dX11_workParts_52 rfl rfl ?_
    refine xt_getI dX11_workParts_53 (flX11_742 rfl) ft_13_84 ho1.1 ho1.2 ?_
    refine xt_imul dX11_workParts_56 ?_
    refine xt_isub dX11_workParts_57 ?_
    obtain ⟨ho7, H⟩ := H
    obtain ⟨hi, H⟩ := H
    refine xt_iald dX11_workParts_58 ho7.1 ho7.2 hi ?_
    refine xt_iconst (v := 1) dX11_workParts_59 (by decide) ?_
    refine xt_icmp_ne (tgt := 212) dX11_workParts_60 (by decide) (fun hc => ?_) (fun hc => ?_)
    · have H := H.1 hc
      exact xt_sub [0, 1] rfl (VX11_workParts_212 H)
    · have H := H.2 hc
      refine xt_aload_n (j := 0) dX11_workParts_63 rfl rfl ?_
      obtain ⟨b8, hb, H⟩ := H
      refine xt_getR dX11_workParts_64 (flX11_96 rfl) ft_13_38 ho1.1 ho1.2 hb ?_
      refine xt_iload_n (j := 1) dX11_workParts_67 rfl rfl ?_
      obtain ⟨ho9, H⟩ := H
      obtain ⟨hi, H⟩ := H
      refine xt_iald dX11_workParts_68 ho9.1 ho9.2 hi ?_
      refine xt_bipush (v := 14) dX11_workParts_69 (by decide) ?_
      refine xt_icmp_ne (tgt := 95) dX11_workParts_71 (by decide) (fun hc => ?_) (fun hc => ?_)
      · have H := H.1 hc
        refine xt_aload_n (j := 0) dX11_workParts_95 rfl rfl ?_
        obtain ⟨b10, hb, H⟩ := H
        refine xt_getR dX11_workParts_96 (flX11_96 rfl) ft_13_38 ho1.1 ho1.2 hb ?_
        refine xt_iload_n (j := 1) dX11_workParts_99 rfl rfl ?_
        obtain ⟨ho11, H⟩ := H
        obtain ⟨hi, H⟩ := H
        refine xt_iald dX11_workParts_100 ho11.1 ho11.2 hi ?_
        refine xt_iconst (v := 3) dX11_workParts_101 (by decide) ?_
        refine xt_icmp_ne (tgt := 148) dX11_workParts_102 (by decide) (fun hc => ?_) (fun hc => ?_)
        · have H := H.1 hc
          exact xt_sub [0, 1] rfl (VX11_workParts_148 H)
        · have H := H.2 hc
          refine xt_aload_n (j := 0) dX11_workParts_105 rfl rfl ?_
          obtain ⟨b12, hb, H⟩ := H
          refine xt_getR dX11_workParts_106 (flX11_117 rfl) ft_13_45 ho1.1 ho1.2 hb ?_
          refine xt_iload_n (j := 1) dX11_workParts_109 rfl rfl ?_
          obtain ⟨ho13, H⟩ := H
          obtain ⟨hi, H⟩ := H
          refine xt_iald dX11_workParts_110 ho13.1 ho13.2 hi ?_
          refine xt_iconst (v := -1) dX11_workParts_111 (by decide) ?_
          refine xt_icmp_eq (tgt := 148) dX11_workParts_112 (by decide) (fun hc => ?_) (fun hc => ?_)
          · have H := H.1 hc
            exact xt_sub [0, 1] rfl (VX11_workParts_148 H)
          · have H := H.2 hc
            refine xt_aload_n (j := 0) dX11_workParts_115 rfl rfl ?_
            refine xt_aload_n (j := 0) dX11_workParts_116 rfl rfl ?_
            obtain ⟨b14, hb, H⟩ := H
            refine xt_getR dX11_workParts_117 (flX11_114 rfl) ft_13_44 ho1.1 ho1.2 hb ?_
            refine xt_iload_n (j := 1) dX11_workParts_120 rfl rfl ?_
            obtain ⟨ho15, H⟩ := H
            obtain ⟨hi, H⟩ := H
            refine xt_iald dX11_workParts_121 ho15.1 ho15.2 hi ?_
            refine xt_aload_n (j := 0) dX11_workParts_122 rfl rfl ?_
            obtain ⟨b16, hb, H⟩ := H
            refine xt_getR dX11_workParts_123 (flX11_117 rfl) ft_13_45 ho1.1 ho1.2 hb ?_
            refine xt_iload_n (j := 1) dX11_workParts_126 rfl rfl ?_
            obtain ⟨ho17, H⟩ := H
            obtain ⟨hi, H⟩ := H
            refine xt_iald dX11_workParts_127 ho17.1 ho17.2 hi ?_
            refine xt_callV (h2 := h) (as := [.int (mAI M b14 (x1 : Int32).toNatClampNeg), .int (mAI M b16 (x1 : Int32).toNatClampNeg)]) (st := []) dX11_workParts_128 (mlX11_809 rfl) rfl ho1.1 ⟨by rw [ho1.2]; rfl, by rw [ho1.2]; decide⟩ (by first | decide | (simp [Value.category]; done)) (Nat.le_refl _) H (fun r M18 HH hE => ?_)
            obtain ⟨r19, hr, H⟩ := HH hE
            subst hr
            have ho1 := ok_E ho1 hE
            show T _ _ _ _ [.long r19] _ _
            refine xt_lstore_n (lv' := [(2, .long r19), (0, .ref x0), (1, .int x1)]) dX11_workParts_131 rfl (by decide) rfl ?_
            refine xt_aload_n (j := 1) dX11_workParts_132 rfl rfl ?_
            refine xt_getI dX11_workParts_133 (flX11_802 rfl) ft_13_111 ho1.1 ho1.2 ?_
            refine xt_if_ne (tgt := 145) dX11_workParts_136 (by decide) (fun hc => ?_) (fun hc => ?_)
            · have H := H.1 hc
              exact xt_sub [1, 2] rfl (VX11_workParts_145 H)
            · have H := H.2 hc
              refine xt_aload_n (j := 1) dX11_workParts_139 rfl rfl ?_
              refine xt_iload_n (j := 2) dX11_workParts_140 rfl rfl ?_
              refine xt_lload_n (j := 0) dX11_workParts_141 rfl rfl ?_
              refine xt_callV (h2 := h) (as := [.int x1, .long r19]) (st := []) dX11_workParts_142 (mlX11_820 rfl) rfl ho1.1 ⟨by rw [ho1.2]; rfl, by rw [ho1.2]; decide⟩ (by first | decide | (simp [Value.category]; done)) (Nat.le_refl _) H (fun r M20 HH hE => ?_)
              obtain ⟨hr, H⟩ := HH hE
              subst hr
              have ho1 := ok_E ho1 hE
              show T _ _ _ _ [] _ _
              exact xt_sub [1, 2] rfl (VX11_workParts_145 H)
      · have H := H.2 hc
        refine xt_aload_n (j := 0) dX11_workParts_74 rfl rfl ?_
        refine xt_aload_n (j := 0) dX11_workParts_75 rfl rfl ?_
        obtain ⟨b21, hb, H⟩ := H
        refine xt_getR dX11_workParts_76 (flX11_285 rfl) ft_13_112 ho1.1 ho1.2 hb ?_
        refine xt_iload_n (j := 1) dX11_workParts_79 rfl rfl ?_
        refine xt_bipush (v := 40) dX11_workParts_80 (by decide) ?_
        refine xt_aload_n (j := 0) dX11_workParts_82 rfl rfl ?_
        refine xt_getI dX11_workParts_83 (flX11_742 rfl) ft_13_84 ho1.1 ho1.2 ?_
        refine xt_imul dX11_workParts_86 ?_
        refine xt_isub dX11_workParts_87 ?_
        obtain ⟨ho22, H⟩ := H
        obtain ⟨hi, H⟩ := H
        refine xt_iald dX11_workParts_88 ho22.1 ho22.2 hi ?_
        obtain ⟨M23, eM23⟩ : ∃ z, z = wI M x0 111 (mAI M b21 (x1 - (40 * (mI M x0 84)) : Int32).toNatClampNeg) := ⟨_, rfl⟩
        have H := H _ eM23
        refine xt_putI dX11_workParts_89 (flX11_802 rfl) ty_13_111 rfl ho1.1 ho1.2 ?_
        have ho1 : ok M23 x0 13 := by rw [eM23]; exact ho1
        rw [← eM23]
        refine xt_goto (tgt := 195) dX11_workParts_92 (by decide) ?_
        exact xt_sub [0, 1] rfl (VX11_workParts_195 H)
def DX11_workParts_0 (h : Nat) (x0 : Nat) (M : Mem) (Q : Option Value → Mem → Prop) : Prop :=
  ok M x0 13 ∧ ∀ M2 : Mem, M2 = wI M x0 113 0 →
  ∀ M3 : Mem, M3 = wI M2 x0 111 0 →
  T (h + 1) mdX11_workParts 18 [(0, .ref x0), (1, .int (40 * (mI M3 x0 84)))] [] M3 Q
set_option maxRecDepth 20000 in
set_option maxHeartbeats 2000000 in
theorem VX11_workParts_0 {h : Nat} {x0 : Nat} {M : Mem} {Q : Option Value → Mem → Prop} (H : DX11_workParts_0 h x0 M Q) : T (h + 1) mdX11_workParts 0 [(0, .ref x0)] [] M Q := by
  unfold DX11_workParts_0 at H
  refine xt_aload_n (j := 0) dX11_workParts_0 rfl rfl ?_
  refine xt_iconst (v := 0) dX11_workParts_1 (by decide) ?_
  obtain ⟨ho1, H⟩ := H
  obtain ⟨M2, eM2⟩ : ∃ z, z = wI M x0 113 0 := ⟨_, rfl⟩
  have H := H _ eM2
  refine xt_putI dX11_workParts_2 (flX11_817 rfl) ty_13_113 rfl ho1.1 ho1.2 ?_
  have ho1 : ok M2 x0 13 := by rw [eM2]; exact ho1
  rw [← eM2]
  refine xt_aload_n (j := 0) dX11_workParts_5 rfl rfl ?_
  refine xt_iconst (v := 0) dX11_workParts_6 (by decide) ?_
  obtain ⟨M3, eM3⟩ : ∃ z, z = wI M2 x0 111 0 := ⟨_, rfl⟩
  have H := H _ eM3
  refine xt_putI dX11_workParts_7 (flX11_802 rfl) ty_13_111 rfl ho1.1 ho1.2 ?_
  have ho1 : ok M3 x0 13 := by rw [eM3]; exact ho1
  rw [← eM3]
  refine xt_bipush (v := 40) dX11_workParts_10 (by decide) ?_
  refine xt_aload_n (j := 0) dX11_workParts_12 rfl rfl ?_
  refine xt_getI dX11_workParts_13 (flX11_742 rfl) ft_13_84 ho1.1 ho1.2 ?_
  refine xt_imul dX11_workParts_16 ?_
  refine xt_istore_n (lv' := [(1, .int (40 * (mI M3 x0 84))), (0, .ref x0)]) dX11_workParts_17 rfl (by decide) rfl ?_
  exact xt_sub (lv' := [(0, .ref x0), (1, .int (40 * (mI M3 x0 84)))]) [1, 0] rfl H
theorem KX11_workParts {h : Nat} {x0 : Nat} {M : Mem} {Q : Option Value → Mem → Prop} (H : DX11_workParts_0 h x0 M Q) : E (h + 1) mdX11_workParts [.ref x0] M Q := E.of (by decide) (Nat.le_of_ble_eq_true rfl) (fun _ _ _ => trivial) (VX11_workParts_0 H)
def DX11_keepWires_90 (h : Nat) (x0 : Nat) (x1 : Int32) (x2 : Int32) (x3 : Int32) (x4 : Int32) (s0 : Nat) (s1 : Int32) (s2 : Int32) (M : Mem) (Q : Option Value → Mem → Prop) : Prop :=
  ok M s0 21 ∧ vp_in s1 (mL M s0) ∧ ∀ M2 : Mem, M2 = wAI M s0 (s1 : Int32).toNatClampNeg s2 →
  ok M2 x0 13 ∧ ∃ b4 : Nat, mR M2 x0 107 = some b4 ∧ E h mdX11_k [.ref x0, .int x3, .int 0] M2 (fun r M5 => mE M2 M5 → ∃ r6 : Int32, r = some (.int r6) ∧ ok M5 b4 21 ∧ vp_in (x4 + 2) (mL M5 b4) ∧ ∀ M8 : Mem, M8 = wAI M5 b4 (x4 + 2 : Int32).toNatClampNeg r6 →
  ∃ b9 : Nat, mR M8 x0 107 = some b9 ∧ E h mdX11_k [.ref x0, .int x3, .int 1] M8 (fun r M10 => mE M8 M10 → ∃ r11 : Int32, r = some (.int r11) ∧ ok M10 b9 21 ∧ vp_in (x4 + 3) (mL M10 b9) ∧ ∀ M13 : Mem, M13 = wAI M10 b9 (x4 + 3 : Int32).toNatClampNeg r11 →
  ∃ b14 : Nat, mR M13 x0 107 = some b14 ∧ E h mdX11_k [.ref x0, .int x3, .int 2] M13 (fun r M15 => mE M13 M15 → ∃ r16 : Int32, r = some (.int r16) ∧ ok M15 b14 21 ∧ vp_in (x4 + 4) (mL M15 b14) ∧ ∀ M18 : Mem, M18 = wAI M15 b14 (x4 + 4 : Int32).toNatClampNeg r16 →
  T (h + 1) mdX11_keepWires 2 [(0, .ref x0), (1, .int x1), (2, .int (x2 + 1))] [] M18 Q)))
set_option maxRecDepth 20000 in
set_option maxHeartbeats 2000000 in
theorem VX11_keepWires_90 {h : Nat} {x0 : Nat} {x1 : Int32} {x2 : Int32} {x3 : Int32} {x4 : Int32} {s0 : Nat} {s1 : Int32} {s2 : Int32} {M : Mem} {Q : Option Value → Mem → Prop} (H : DX11_keepWires_90 h x0 x1 x2 x3 x4 s0 s1 s2 M Q) : T (h + 1) mdX11_keepWires 90 [(0, .ref x0), (1, .int x1), (2, .int x2), (3, .int x3), (4, .int x4)] [.int s2, .int s1, .ref s0] M Q := by
  unfold DX11_keepWires_90 at H
  obtain ⟨ho1, H⟩ := H
  obtain ⟨hi, H⟩ := H
  obtain ⟨M2, eM2⟩ : ∃ z, z = wAI M s0 (s1 : Int32).toNatClampNeg s2 := ⟨_, rfl⟩
  have H := H _ eM2
  refine xt_iast dX11_keepWires_90 ho1.1 ho1.2 hi ?_
  rw [← eM2]
  refine xt_aload_n (j := 0) dX11_keepWires_91 rfl rfl ?_
  obtain ⟨ho3, H⟩ := H
  obtain ⟨b4, hb, H⟩ := H
  refine xt_getR dX11_keepWires_92 (flX11_273 rfl) ft_13_107 ho3.1 ho3.2 hb ?_
  refine xt_iload (j := 4) dX11_keepWires_95 rfl ?_
  refine xt_iconst (v := 2) dX11_keepWires_97 (by decide) ?_
  refine xt_iadd dX11_keepWires_98 ?_
  refine xt_aload_n (j := 0) dX11_keepWires_99 rfl rfl ?_
  refine xt_iload_n (j := 3) dX11_keepWires_100 rfl rfl ?_
  refine xt_iconst (v := 0) dX11_keepWires_101 (by decide) ?_
  refine xt_callV (h2 := h) (as := [.int x3, .int 0]) (st := [.int (x4 + 2), .ref b4]) dX11_keepWires_102 (mlX11_761 rfl) rfl ho3.1 ⟨by rw [ho3.2]; rfl, by rw [ho3.2]; decide⟩ (by first | decide | (simp [Value.category]; done)) (Nat.le_refl _) H (fun r M5 HH hE => ?_)
  obtain ⟨r6, hr, H⟩ := HH hE
  subst hr
  have ho3 := ok_E ho3 hE
  show T _ _ _ _ [.int r6, .int (x4 + 2), .ref b4] _ _
  obtain ⟨ho7, H⟩ := H
  obtain ⟨hi, H⟩ := H
  obtain ⟨M8, eM8⟩ : ∃ z, z = wAI M5 b4 (x4 + 2 : Int32).toNatClampNeg r6 := ⟨_, rfl⟩
  have H := H _ eM8
  refine xt_iast dX11_keepWires_105 ho7.1 ho7.2 hi ?_
  have ho3 : ok M8 x0 13 := by rw [eM8]; exact ho3
  rw [← eM8]
  refine xt_aload_n (j := 0) dX11_keepWires_106 rfl rfl ?_
  obtain ⟨b9, hb, H⟩ := H
  refine xt_getR dX11_keepWires_107 (flX11_273 rfl) ft_13_107 ho3.1 ho3.2 hb ?_
  refine xt_iload (j := 4) dX11_keepWires_110 rfl ?_
  refine xt_iconst (v := 3) dX11_keepWires_112 (by decide) ?_
  refine xt_iadd dX11_keepWires_113 ?_
  refine xt_aload_n (j := 0) dX11_keepWires_114 rfl rfl ?_
  refine xt_iload_n (j := 3) dX11_keepWires_115 rfl rfl ?_
  refine xt_iconst (v := 1) dX11_keepWires_116 (by decide) ?_
  refine xt_callV (h2 := h) (as := [.int x3, .int 1]) (st := [.int (x4 + 3), .ref b9]) dX11_keepWires_117 (mlX11_761 rfl) rfl ho3.1 ⟨by rw [ho3.2]; rfl, by rw [ho3.2]; decide⟩ (by first | decide | (simp [Value.category]; done)) (Nat.le_refl _) H (fun r M10 HH hE => ?_)
  obtain ⟨r11, hr, H⟩ := HH hE
  subst hr
  have ho3 := ok_E ho3 hE
  show T _ _ _ _ [.int r11, .int (x4 + 3), .ref b9] _ _
  obtain ⟨ho12, H⟩ := H
  obtain ⟨hi, H⟩ := H
  obtain ⟨M13, eM13⟩ : ∃ z, z = wAI M10 b9 (x4 + 3 : Int32).toNatClampNeg r11 := ⟨_, rfl⟩
  have H := H _ eM13
  refine xt_iast dX11_keepWires_120 ho12.1 ho12.2 hi ?_
  have ho3 : ok M13 x0 13 := by rw [eM13]; exact ho3
  rw [← eM13]
  refine xt_aload_n (j := 0) dX11_keepWires_121 rfl rfl ?_
  obtain ⟨b14, hb, H⟩ := H
  refine xt_getR dX11_keepWires_122 (flX11_273 rfl) ft_13_107 ho3.1 ho3.2 hb ?_
  refine xt_iload (j := 4) dX11_keepWires_125 rfl ?_
  refine xt_iconst (v := 4) dX11_keepWires_127 (by decide) ?_
  refine xt_iadd dX11_keepWires_128 ?_
  refine xt_aload_n (j := 0) dX11_keepWires_129 rfl rfl ?_
  refine xt_iload_n (j := 3) dX11_keepWires_130 rfl rfl ?_
  refine xt_iconst (v := 2) dX11_keepWires_131 (by decide) ?_
  refine xt_callV (h2 := h) (as := [.int x3, .int 2]) (st := [.int (x4 + 4), .ref b14]) dX11_keepWires_132 (mlX11_761 rfl) rfl ho3.1 ⟨by rw [ho3.2]; rfl, by rw [ho3.2]; decide⟩ (by first | decide | (simp [Value.category]; done)) (Nat.le_refl _) H (fun r M15 HH hE => ?_)
  obtain ⟨r16, hr, H⟩ := HH hE
  subst hr
  have ho3 := ok_E ho3 hE
  show T _ _ _ _ [.int r16, .int (x4 + 4), .ref b14] _ _
  obtain ⟨ho17, H⟩ := H
  obtain ⟨hi, H⟩ := H
  obtain ⟨M18, eM18⟩ : ∃ z, z = wAI M15 b14 (x4 + 4 : Int32).toNatClampNeg r16 := ⟨_, rfl⟩
  have H := H _ eM18
  refine xt_iast dX11_keepWires_135 ho17.1 ho17.2 hi ?_
  have ho3 : ok M18 x0 13 := by rw [eM18]; exact ho3
  rw [← eM18]
  refine xt_iinc (j := 2) (v := x2 + 1) (lv' := [(2, .int (x2 + 1)), (0, .ref x0), (1, .int x1), (3, .int x3), (4, .int x4)]) dX11_keepWires_136 rfl (by rfl) (by decide) rfl ?_
  refine xt_goto (tgt := 2) dX11_keepWires_139 (by decide) ?_
  exact xt_sub (lv' := [(0, .ref x0), (1, .int x1), (2, .int (x2 + 1))]) [1, 2, 0] rfl H
def DX11_keepWires_2 (h : Nat) (x0 : Nat) (x1 : Int32) (x2 : Int32) (M : Mem) (Q : Option Value → Mem → Prop) : Prop :=
  ok M x0 13 ∧ ∃ b2 : Nat, mR M x0 34 = some b2 ∧ ok M b2 21 ∧ vp_in (mI M x0 84) (mL M b2) ∧ ((mAI M b2 (mI M x0 84 : Int32).toNatClampNeg) ≤ x2 → Q none M) ∧
  (¬ ((mAI M b2 (mI M x0 84 : Int32).toNatClampNeg) ≤ x2) → ∃ b4 : Nat, mR M x0 72 = some b4 ∧ ok M b4 21 ∧ vp_in ((40 * (mI M x0 84)) + x2) (mL M b4) ∧ ∃ b6 : Nat, mR M x0 107 = some b6 ∧ ∃ b7 : Nat, mR M x0 77 = some b7 ∧ ok M b7 21 ∧ vp_in ((mAI M b4 ((40 * (mI M x0 84)) + x2 : Int32).toNatClampNeg) - (700 * (mI M x0 84))) (mL M b7) ∧ ok M b6 21 ∧ vp_in ((200 * x1) + (5 * x2)) (mL M b6) ∧ ∀ M10 : Mem, M10 = wAI M b6 ((200 * x1) + (5 * x2) : Int32).toNatClampNeg (mAI M b7 ((mAI M b4 ((40 * (mI M x0 84)) + x2 : Int32).toNatClampNeg) - (700 * (mI M x0 84)) : Int32).toNatClampNeg) →
  ∃ b11 : Nat, mR M10 x0 107 = some b11 ∧ ∃ b12 : Nat, mR M10 x0 69 = some b12 ∧ ok M10 b12 21 ∧ vp_in (mAI M b4 ((40 * (mI M x0 84)) + x2 : Int32).toNatClampNeg) (mL M10 b12) ∧ (((mI M10 x0 85) &&& (mAI M10 b12 (mAI M b4 ((40 * (mI M x0 84)) + x2 : Int32).toNatClampNeg : Int32).toNatClampNeg)) = 0 → DX11_keepWires_90 h x0 x1 x2 (mAI M b4 ((40 * (mI M x0 84)) + x2 : Int32).toNatClampNeg) ((200 * x1) + (5 * x2)) b11 (((200 * x1) + (5 * x2)) + 1) 0 M10 Q) ∧
  (¬ (((mI M10 x0 85) &&& (mAI M10 b12 (mAI M b4 ((40 * (mI M x0 84)) + x2 : Int32).toNatClampNeg : Int32).toNatClampNeg)) = 0) → DX11_keepWires_90 h x0 x1 x2 (mAI M b4 ((40 * (mI M x0 84)) + x2 : Int32).toNatClampNeg) ((200 * x1) + (5 * x2)) b11 (((200 * x1) + (5 * x2)) + 1) 1 M10 Q))
set_option maxRecDepth 20000 in
set_option maxHeartbeats 2000000 in
theorem VX11_keepWires_2 {h : Nat} {x0 : Nat} {x1 : Int32} {x2 : Int32} {M : Mem} {Q : Option Value → Mem → Prop} (H : DX11_keepWires_2 h x0 x1 x2 M Q) : T (h + 1) mdX11_keepWires 2 [(0, .ref x0), (1, .int x1), (2, .int x2)] [] M Q := by
  unfold DX11_keepWires_2 at H
  refine xt_iload_n (j := 2) dX11_keepWires_2 rfl rfl ?_
  refine xt_aload_n (j := 0) dX11_keepWires_3 rfl rfl ?_
  obtain ⟨ho1, H⟩ := H
  obtain ⟨b2, hb, H⟩ := H
  refine xt_getR dX11_keepWires_4 (flX11_84 rfl) ft_13_34 ho1.1 ho1.2 hb ?_
  refine xt_aload_n (j := 0) dX11_keepWires_7 rfl rfl ?_
  refine xt_getI dX11_keepWires_8 (flX11_742 rfl) ft_13_84 ho1.1 ho1.2 ?_
  obtain ⟨ho3, H⟩ := H
  obtain ⟨hi, H⟩ := H
  refine xt_iald dX11_keepWires_11 ho3.1 ho3.2 hi ?_
  refine xt_icmp_ge (tgt := 142) dX11_keepWires_12 (by decide) (fun hc => ?_) (fun hc => ?_)
  · have H := H.1 hc
    exact xt_return dX11_keepWires_142 rfl H
  · have H := H.2 hc
    refine xt_aload_n (j := 0) dX11_keepWires_15 rfl rfl ?_
    obtain ⟨b4, hb, H⟩ := H
    refine xt_getR dX11_keepWires_16 (flX11_192 rfl) ft_13_72 ho1.1 ho1.2 hb ?_
    refine xt_bipush (v := 40) dX11_keepWires_19 (by decide) ?_
    refine xt_aload_n (j := 0) dX11_keepWires_21 rfl rfl ?_
    refine xt_getI dX11_keepWires_22 (flX11_742 rfl) ft_13_84 ho1.1 ho1.2 ?_
    refine xt_imul dX11_keepWires_25 ?_
    refine xt_iload_n (j := 2) dX11_keepWires_26 rfl rfl ?_
    refine xt_iadd dX11_keepWires_27 ?_
    obtain ⟨ho5, H⟩ := H
    obtain ⟨hi, H⟩ := H
    refine xt_iald dX11_keepWires_28 ho5.1 ho5.2 hi ?_
    refine xt_istore_n (lv' := [(3, .int (mAI M b4 ((40 * (mI M x0 84)) + x2 : Int32).toNatClampNeg)), (0, .ref x0), (1, .int x1), (2, .int x2)]) dX11_keepWires_29 rfl (by decide) rfl ?_
    refine xt_sipush (v := 200) dX11_keepWires_30 (by decide) ?_
    refine xt_iload_n (j := 2) dX11_keepWires_33 rfl rfl ?_
    refine xt_imul dX11_keepWires_34 ?_
    refine xt_iconst (v := 5) dX11_keepWires_35 (by decide) ?_
    refine xt_iload_n (j := 3) dX11_keepWires_36 rfl rfl ?_
    refine xt_imul dX11_keepWires_37 ?_
    refine xt_iadd dX11_keepWires_38 ?_
    refine xt_istore (lv' := [(4, .int ((200 * x1) + (5 * x2))), (3, .int (mAI M b4 ((40 * (mI M x0 84)) + x2 : Int32).toNatClampNeg)), (0, .ref x0), (1, .int x1), (2, .int x2)]) dX11_keepWires_39 (by decide) rfl ?_
    refine xt_aload_n (j := 2) dX11_keepWires_41 rfl rfl ?_
    obtain ⟨b6, hb, H⟩ := H
    refine xt_getR dX11_keepWires_42 (flX11_273 rfl) ft_13_107 ho1.1 ho1.2 hb ?_
    refine xt_iload (j := 0) dX11_keepWires_45 rfl ?_
    refine xt_aload_n (j := 2) dX11_keepWires_47 rfl rfl ?_
    obtain ⟨b7, hb, H⟩ := H
    refine xt_getR dX11_keepWires_48 (flX11_207 rfl) ft_13_77 ho1.1 ho1.2 hb ?_
    refine xt_iload_n (j := 1) dX11_keepWires_51 rfl rfl ?_
    refine xt_sipush (v := 700) dX11_keepWires_52 (by decide) ?_
    refine xt_aload_n (j := 2) dX11_keepWires_55 rfl rfl ?_
    refine xt_getI dX11_keepWires_56 (flX11_742 rfl) ft_13_84 ho1.1 ho1.2 ?_
    refine xt_imul dX11_keepWires_59 ?_
    refine xt_isub dX11_keepWires_60 ?_
    obtain ⟨ho8, H⟩ := H
    obtain ⟨hi, H⟩ := H
    refine xt_iald dX11_keepWires_61 ho8.1 ho8.2 hi ?_
    obtain ⟨ho9, H⟩ := H
    obtain ⟨hi, H⟩ := H
    obtain ⟨M10, eM10⟩ : ∃ z, z = wAI M b6 ((200 * x1) + (5 * x2) : Int32).toNatClampNeg (mAI M b7 ((mAI M b4 ((40 * (mI M x0 84)) + x2 : Int32).toNatClampNeg) - (700 * (mI M x0 84)) : Int32).toNatClampNeg) := ⟨_, rfl⟩
    have H := H _ eM10
    refine xt_iast dX11_keepWires_62 ho9.1 ho9.2 hi ?_
    have ho1 : ok M10 x0 13 := by rw [eM10]; exact ho1
    rw [← eM10]
    refine xt_aload_n (j := 2) dX11_keepWires_63 rfl rfl ?_
    obtain ⟨b11, hb, H⟩ := H
    refine xt_getR dX11_keepWires_64 (flX11_273 rfl) ft_13_107 ho1.1 ho1.2 hb ?_
    refine xt_iload (j := 0) dX11_keepWires_67 rfl ?_
    refine xt_iconst (v := 1) dX11_keepWires_69 (by decide) ?_
    refine xt_iadd dX11_keepWires_70 ?_
    refine xt_aload_n (j := 2) dX11_keepWires_71 rfl rfl ?_
    refine xt_getI dX11_keepWires_72 (flX11_764 rfl) ft_13_85 ho1.1 ho1.2 ?_
    refine xt_aload_n (j := 2) dX11_keepWires_75 rfl rfl ?_
    obtain ⟨b12, hb, H⟩ := H
    refine xt_getR dX11_keepWires_76 (flX11_183 rfl) ft_13_69 ho1.1 ho1.2 hb ?_
    refine xt_iload_n (j := 1) dX11_keepWires_79 rfl rfl ?_
    obtain ⟨ho13, H⟩ := H
    obtain ⟨hi, H⟩ := H
    refine xt_iald dX11_keepWires_80 ho13.1 ho13.2 hi ?_
    refine xt_iand dX11_keepWires_81 ?_
    refine xt_if_eq (tgt := 89) dX11_keepWires_82 (by decide) (fun hc => ?_) (fun hc => ?_)
    · have H := H.1 hc
      refine xt_iconst (v := 0) dX11_keepWires_89 (by decide) ?_
      exact xt_sub [2, 3, 4, 1, 0] rfl (VX11_keepWires_90 H)
    · have H := H.2 hc
      refine xt_iconst (v := 1) dX11_keepWires_85 (by decide) ?_
      refine xt_goto (tgt := 90) dX11_keepWires_86 (by decide) ?_
      exact xt_sub [2, 3, 4, 1, 0] rfl (VX11_keepWires_90 H)
def DX11_keepWires_0 (h : Nat) (x0 : Nat) (x1 : Int32) (M : Mem) (Q : Option Value → Mem → Prop) : Prop :=
  T (h + 1) mdX11_keepWires 2 [(0, .ref x0), (1, .int x1), (2, .int 0)] [] M Q
set_option maxRecDepth 20000 in
set_option maxHeartbeats 2000000 in
theorem VX11_keepWires_0 {h : Nat} {x0 : Nat} {x1 : Int32} {M : Mem} {Q : Option Value → Mem → Prop} (H : DX11_keepWires_0 h x0 x1 M Q) : T (h + 1) mdX11_keepWires 0 [(0, .ref x0), (1, .int x1)] [] M Q := by
  unfold DX11_keepWires_0 at H
  refine xt_iconst (v := 0) dX11_keepWires_0 (by decide) ?_
  refine xt_istore_n (lv' := [(2, .int 0), (0, .ref x0), (1, .int x1)]) dX11_keepWires_1 rfl (by decide) rfl ?_
  exact xt_sub (lv' := [(0, .ref x0), (1, .int x1), (2, .int 0)]) [1, 2, 0] rfl H
theorem KX11_keepWires {h : Nat} {x0 : Nat} {x1 : Int32} {M : Mem} {Q : Option Value → Mem → Prop} (H : DX11_keepWires_0 h x0 x1 M Q) : E (h + 1) mdX11_keepWires [.ref x0, .int x1] M Q := E.of (by decide) (Nat.le_of_ble_eq_true rfl) (fun _ _ _ => trivial) (VX11_keepWires_0 H)
def DX11_beat_475 (h : Nat) (x0 : Nat) (x1 : Int32) (s0 : Nat) (s1 : Int32) (s2 : Int32) (M : Mem) (Q : Option Value → Mem → Prop) : Prop :=
  ok M s0 21 ∧ vp_in s1 (mL M s0) ∧ ∀ M2 : Mem, M2 = wAI M s0 (s1 : Int32).toNatClampNeg s2 →
  ok M2 x0 13 ∧ ∃ b4 : Nat, mR M2 x0 103 = some b4 ∧ ok M2 b4 21 ∧ vp_in x1 (mL M2 b4) ∧ Q (some (.int (mAI M2 b4 (x1 : Int32).toNatClampNeg))) M2
set_option maxRecDepth 20000 in
set_option maxHeartbeats 2000000 in
theorem VX11_beat_475 {h : Nat} {x0 : Nat} {x1 : Int32} {s0 : Nat} {s1 : Int32} {s2 : Int32} {M : Mem} {Q : Option Value → Mem → Prop} (H : DX11_beat_475 h x0 x1 s0 s1 s2 M Q) : T (h + 1) mdX11_beat 475 [(0, .ref x0), (1, .int x1)] [.int s2, .int s1, .ref s0] M Q := by
  unfold DX11_beat_475 at H
  obtain ⟨ho1, H⟩ := H
  obtain ⟨hi, H⟩ := H
  obtain ⟨M2, eM2⟩ : ∃ z, z = wAI M s0 (s1 : Int32).toNatClampNeg s2 := ⟨_, rfl⟩
  have H := H _ eM2
  refine xt_iast dX11_beat_475 ho1.1 ho1.2 hi ?_
  rw [← eM2]
  refine xt_aload_n (j := 0) dX11_beat_476 rfl rfl ?_
  obtain ⟨ho3, H⟩ := H
  obtain ⟨b4, hb, H⟩ := H
  refine xt_getR dX11_beat_477 (flX11_261 rfl) ft_13_103 ho3.1 ho3.2 hb ?_
  refine xt_iload_n (j := 1) dX11_beat_480 rfl rfl ?_
  obtain ⟨ho5, H⟩ := H
  obtain ⟨hi, H⟩ := H
  refine xt_iald dX11_beat_481 ho5.1 ho5.2 hi ?_
  exact xt_ireturn dX11_beat_482 rfl H
def DX11_beat_455 (h : Nat) (x0 : Nat) (x1 : Int32) (s0 : Nat) (s1 : Int32) (s2 : Int32) (M : Mem) (Q : Option Value → Mem → Prop) : Prop :=
  ok M s0 22 ∧ vp_in s1 (mL M s0) ∧ ∀ M2 : Mem, M2 = wAI M s0 (s1 : Int32).toNatClampNeg (vp_nar .boolean s2) →
  ok M2 x0 13 ∧ ∃ b4 : Nat, mR M2 x0 103 = some b4 ∧ ∃ b5 : Nat, mR M2 x0 94 = some b5 ∧ ok M2 b5 22 ∧ vp_in x1 (mL M2 b5) ∧ ((mAI M2 b5 (x1 : Int32).toNatClampNeg) = 0 → DX11_beat_475 h x0 x1 b4 x1 0 M2 Q) ∧
  (¬ ((mAI M2 b5 (x1 : Int32).toNatClampNeg) = 0) → DX11_beat_475 h x0 x1 b4 x1 1 M2 Q)
set_option maxRecDepth 20000 in
set_option maxHeartbeats 2000000 in
theorem VX11_beat_455 {h : Nat} {x0 : Nat} {x1 : Int32} {s0 : Nat} {s1 : Int32} {s2 : Int32} {M : Mem} {Q : Option Value → Mem → Prop} (H : DX11_beat_455 h x0 x1 s0 s1 s2 M Q) : T (h + 1) mdX11_beat 455 [(0, .ref x0), (1, .int x1)] [.int s2, .int s1, .ref s0] M Q := by
  unfold DX11_beat_455 at H
  obtain ⟨ho1, H⟩ := H
  obtain ⟨hi, H⟩ := H
  obtain ⟨M2, eM2⟩ : ∃ z, z = wAI M s0 (s1 : Int32).toNatClampNeg (vp_nar .boolean s2) := ⟨_, rfl⟩
  have H := H _ eM2
  refine xt_zast dX11_beat_455 ho1.1 ho1.2 hi ?_
  rw [← eM2]
  refine xt_aload_n (j := 0) dX11_beat_456 rfl rfl ?_
  obtain ⟨ho3, H⟩ := H
  obtain ⟨b4, hb, H⟩ := H
  refine xt_getR dX11_beat_457 (flX11_261 rfl) ft_13_103 ho3.1 ho3.2 hb ?_
  refine xt_iload_n (j := 1) dX11_beat_460 rfl rfl ?_
  refine xt_aload_n (j := 0) dX11_beat_461 rfl rfl ?_
  obtain ⟨b5, hb, H⟩ := H
  refine xt_getR dX11_beat_462 (flX11_234 rfl) ft_13_94 ho3.1 ho3.2 hb ?_
  refine xt_iload_n (j := 1) dX11_beat_465 rfl rfl ?_
  obtain ⟨ho6, H⟩ := H
  obtain ⟨hi, H⟩ := H
  refine xt_zald dX11_beat_466 ho6.1 ho6.2 hi ?_
  refine xt_if_eq (tgt := 474) dX11_beat_467 (by decide) (fun hc => ?_) (fun hc => ?_)
  · have H := H.1 hc
    refine xt_iconst (v := 0) dX11_beat_474 (by decide) ?_
    exact xt_sub [0, 1] rfl (VX11_beat_475 H)
  · have H := H.2 hc
    refine xt_iconst (v := 1) dX11_beat_470 (by decide) ?_
    refine xt_goto (tgt := 475) dX11_beat_471 (by decide) ?_
    exact xt_sub [0, 1] rfl (VX11_beat_475 H)
def DX11_beat_346 (h : Nat) (x0 : Nat) (x1 : Int32) (x4 : Int32) (M : Mem) (Q : Option Value → Mem → Prop) : Prop :=
  (6 ≤ x4 → ok M x0 13 ∧ ∃ b2 : Nat, mR M x0 106 = some b2 ∧ E h mdX11_presentNow [.ref x0] M (fun r M3 => mE M M3 → ∃ r4 : Int32, r = some (.int r4) ∧ ok M3 b2 21 ∧ vp_in x1 (mL M3 b2) ∧ ∀ M6 : Mem, M6 = wAI M3 b2 (x1 : Int32).toNatClampNeg r4 →
  ∃ b7 : Nat, mR M6 x0 96 = some b7 ∧ ∃ b8 : Nat, mR M6 x0 106 = some b8 ∧ ok M6 b8 21 ∧ vp_in x1 (mL M6 b8) ∧ ok M6 b7 21 ∧ vp_in x1 (mL M6 b7) ∧ ∀ M11 : Mem, M11 = wAI M6 b7 (x1 : Int32).toNatClampNeg (mAI M6 b8 (x1 : Int32).toNatClampNeg) →
  ∃ b12 : Nat, mR M11 x0 95 = some b12 ∧ E h mdX11_setNow [.ref x0] M11 (fun r M13 => mE M11 M13 → ∃ r14 : Int32, r = some (.int r14) ∧ ok M13 b12 21 ∧ vp_in x1 (mL M13 b12) ∧ ∀ M16 : Mem, M16 = wAI M13 b12 (x1 : Int32).toNatClampNeg r14 →
  ∃ b17 : Nat, mR M16 x0 93 = some b17 ∧ ok M16 b17 22 ∧ vp_in x1 (mL M16 b17) ∧ ∀ M19 : Mem, M19 = wAI M16 b17 (x1 : Int32).toNatClampNeg (vp_nar .boolean 0) →
  ∃ b20 : Nat, mR M19 x0 99 = some b20 ∧ ok M19 b20 21 ∧ vp_in x1 (mL M19 b20) ∧ vp_in x1 (mL M19 b20) ∧ ∀ M22 : Mem, M22 = wAI M19 b20 (x1 : Int32).toNatClampNeg ((mAI M19 b20 (x1 : Int32).toNatClampNeg) + 1) →
  ∃ b23 : Nat, mR M22 x0 94 = some b23 ∧ ∃ b24 : Nat, mR M22 x0 73 = some b24 ∧ ok M22 b24 21 ∧ vp_in (mI M22 x0 84) (mL M22 b24) ∧ E h mdX11_k [.ref x0, .int (mAI M22 b24 (mI M22 x0 84 : Int32).toNatClampNeg), .int 0] M22 (fun r M26 => mE M22 M26 → ∃ r27 : Int32, r = some (.int r27) ∧ (¬ r27 = 1 → DX11_beat_455 h x0 x1 b23 x1 0 M26 Q) ∧
  (r27 = 1 → DX11_beat_455 h x0 x1 b23 x1 1 M26 Q))))) ∧
  (¬ (6 ≤ x4) → ok M x0 13 ∧ ∃ b29 : Nat, mR M x0 98 = some b29 ∧ ∃ b30 : Nat, mR M x0 110 = some b30 ∧ ok M b30 23 ∧ vp_in x4 (mL M b30) ∧ ok M b29 23 ∧ vp_in ((6 * x1) + x4) (mL M b29) ∧ ∀ M33 : Mem, M33 = wAJ M b29 ((6 * x1) + x4 : Int32).toNatClampNeg (mAJ M b30 (x4 : Int32).toNatClampNeg) →
  T (h + 1) mdX11_beat 346 [(0, .ref x0), (1, .int x1), (4, .int (x4 + 1))] [] M33 Q)
set_option maxRecDepth 20000 in
set_option maxHeartbeats 2000000 in
theorem VX11_beat_346 {h : Nat} {x0 : Nat} {x1 : Int32} {x4 : Int32} {M : Mem} {Q : Option Value → Mem → Prop} (H : DX11_beat_346 h x0 x1 x4 M Q) : T (h + 1) mdX11_beat 346 [(0, .ref x0), (1, .int x1), (4, .int x4)] [] M Q := by
  unfold DX11_beat_346 at H
  refine xt_iload (j := 2) dX11_beat_346 rfl ?_
  refine xt_bipush (v := 6) dX11_beat_348 (by decide) ?_
  refine xt_icmp_ge (tgt := 378) dX11_beat_350 (by decide) (fun hc => ?_) (fun hc => ?_)
  · have H := H.1 hc
    refine xt_aload_n (j := 0) dX11_beat_378 rfl rfl ?_
    obtain ⟨ho1, H⟩ := H
    obtain ⟨b2, hb, H⟩ := H
    refine xt_getR dX11_beat_379 (flX11_270 rfl) ft_13_106 ho1.1 ho1.2 hb ?_
    refine xt_iload_n (j := 1) dX11_beat_382 rfl rfl ?_
    refine xt_aload_n (j := 0) dX11_beat_383 rfl rfl ?_
    refine xt_callV (h2 := h) (as := []) (st := [.int x1, .ref b2]) dX11_beat_384 (mlX11_835 rfl) rfl ho1.1 ⟨by rw [ho1.2]; rfl, by rw [ho1.2]; decide⟩ (by first | decide | (simp [Value.category]; done)) (Nat.le_refl _) H (fun r M3 HH hE => ?_)
    obtain ⟨r4, hr, H⟩ := HH hE
    subst hr
    have ho1 := ok_E ho1 hE
    show T _ _ _ _ [.int r4, .int x1, .ref b2] _ _
    obtain ⟨ho5, H⟩ := H
    obtain ⟨hi, H⟩ := H
    obtain ⟨M6, eM6⟩ : ∃ z, z = wAI M3 b2 (x1 : Int32).toNatClampNeg r4 := ⟨_, rfl⟩
    have H := H _ eM6
    refine xt_iast dX11_beat_387 ho5.1 ho5.2 hi ?_
    have ho1 : ok M6 x0 13 := by rw [eM6]; exact ho1
    rw [← eM6]
    refine xt_aload_n (j := 0) dX11_beat_388 rfl rfl ?_
    obtain ⟨b7, hb, H⟩ := H
    refine xt_getR dX11_beat_389 (flX11_240 rfl) ft_13_96 ho1.1 ho1.2 hb ?_
    refine xt_iload_n (j := 1) dX11_beat_392 rfl rfl ?_
    refine xt_aload_n (j := 0) dX11_beat_393 rfl rfl ?_
    obtain ⟨b8, hb, H⟩ := H
    refine xt_getR dX11_beat_394 (flX11_270 rfl) ft_13_106 ho1.1 ho1.2 hb ?_
    refine xt_iload_n (j := 1) dX11_beat_397 rfl rfl ?_
    obtain ⟨ho9, H⟩ := H
    obtain ⟨hi, H⟩ := H
    refine xt_iald dX11_beat_398 ho9.1 ho9.2 hi ?_
    obtain ⟨ho10, H⟩ := H
    obtain ⟨hi, H⟩ := H
    obtain ⟨M11, eM11⟩ : ∃ z, z = wAI M6 b7 (x1 : Int32).toNatClampNeg (mAI M6 b8 (x1 : Int32).toNatClampNeg) := ⟨_, rfl⟩
    have H := H _ eM11
    refine xt_iast dX11_beat_399 ho10.1 ho10.2 hi ?_
    have ho1 : ok M11 x0 13 := by rw [eM11]; exact ho1
    rw [← eM11]
    refine xt_aload_n (j := 0) dX11_beat_400 rfl rfl ?_
    obtain ⟨b12, hb, H⟩ := H
    refine xt_getR dX11_beat_401 (flX11_237 rfl) ft_13_95 ho1.1 ho1.2 hb ?_
    refine xt_iload_n (j := 1) dX11_beat_404 rfl rfl ?_
    refine xt_aload_n (j := 0) dX11_beat_405 rfl rfl ?_
    refine xt_callV (h2 := h) (as := []) (st := [.int x1, .ref b12]) dX11_beat_406 (mlX11_838 rfl) rfl ho1.1 ⟨by rw [ho1.2]; rfl, by rw [ho1.2]; decide⟩ (by first | decide | (simp [Value.category]; done)) (Nat.le_refl _) H (fun r M13 HH hE => ?_)
    obtain ⟨r14, hr, H⟩ := HH hE
    subst hr
    have ho1 := ok_E ho1 hE
    show T _ _ _ _ [.int r14, .int x1, .ref b12] _ _
    obtain ⟨ho15, H⟩ := H
    obtain ⟨hi, H⟩ := H
    obtain ⟨M16, eM16⟩ : ∃ z, z = wAI M13 b12 (x1 : Int32).toNatClampNeg r14 := ⟨_, rfl⟩
    have H := H _ eM16
    refine xt_iast dX11_beat_409 ho15.1 ho15.2 hi ?_
    have ho1 : ok M16 x0 13 := by rw [eM16]; exact ho1
    rw [← eM16]
    refine xt_aload_n (j := 0) dX11_beat_410 rfl rfl ?_
    obtain ⟨b17, hb, H⟩ := H
    refine xt_getR dX11_beat_411 (flX11_231 rfl) ft_13_93 ho1.1 ho1.2 hb ?_
    refine xt_iload_n (j := 1) dX11_beat_414 rfl rfl ?_
    refine xt_iconst (v := 0) dX11_beat_415 (by decide) ?_
    obtain ⟨ho18, H⟩ := H
    obtain ⟨hi, H⟩ := H
    obtain ⟨M19, eM19⟩ : ∃ z, z = wAI M16 b17 (x1 : Int32).toNatClampNeg (vp_nar .boolean 0) := ⟨_, rfl⟩
    have H := H _ eM19
    refine xt_zast dX11_beat_416 ho18.1 ho18.2 hi ?_
    have ho1 : ok M19 x0 13 := by rw [eM19]; exact ho1
    rw [← eM19]
    refine xt_aload_n (j := 0) dX11_beat_417 rfl rfl ?_
    obtain ⟨b20, hb, H⟩ := H
    refine xt_getR dX11_beat_418 (flX11_249 rfl) ft_13_99 ho1.1 ho1.2 hb ?_
    refine xt_iload_n (j := 1) dX11_beat_421 rfl rfl ?_
    refine xt_dup2 dX11_beat_422 rfl rfl ?_
    obtain ⟨ho21, H⟩ := H
    obtain ⟨hi, H⟩ := H
    refine xt_iald dX11_beat_423 ho21.1 ho21.2 hi ?_
    refine xt_iconst (v := 1) dX11_beat_424 (by decide) ?_
    refine xt_iadd dX11_beat_425 ?_
    obtain ⟨hi, H⟩ := H
    obtain ⟨M22, eM22⟩ : ∃ z, z = wAI M19 b20 (x1 : Int32).toNatClampNeg ((mAI M19 b20 (x1 : Int32).toNatClampNeg) + 1) := ⟨_, rfl⟩
    have H := H _ eM22
    refine xt_iast dX11_beat_426 ho21.1 ho21.2 hi ?_
    have ho1 : ok M22 x0 13 := by rw [eM22]; exact ho1
    rw [← eM22]
    refine xt_aload_n (j := 0) dX11_beat_427 rfl rfl ?_
    obtain ⟨b23, hb, H⟩ := H
    refine xt_getR dX11_beat_428 (flX11_234 rfl) ft_13_94 ho1.1 ho1.2 hb ?_
    refine xt_iload_n (j := 1) dX11_beat_431 rfl rfl ?_
    refine xt_aload_n (j := 0) dX11_beat_432 rfl rfl ?_
    refine xt_aload_n (j := 0) dX11_beat_433 rfl rfl ?_
    obtain ⟨b24, hb, H⟩ := H
    refine xt_getR dX11_beat_434 (flX11_195 rfl) ft_13_73 ho1.1 ho1.2 hb ?_
    refine xt_aload_n (j := 0) dX11_beat_437 rfl rfl ?_
    refine xt_getI dX11_beat_438 (flX11_742 rfl) ft_13_84 ho1.1 ho1.2 ?_
    obtain ⟨ho25, H⟩ := H
    obtain ⟨hi, H⟩ := H
    refine xt_iald dX11_beat_441 ho25.1 ho25.2 hi ?_
    refine xt_iconst (v := 0) dX11_beat_442 (by decide) ?_
    refine xt_callV (h2 := h) (as := [.int (mAI M22 b24 (mI M22 x0 84 : Int32).toNatClampNeg), .int 0]) (st := [.int x1, .ref b23]) dX11_beat_443 (mlX11_761 rfl) rfl ho1.1 ⟨by rw [ho1.2]; rfl, by rw [ho1.2]; decide⟩ (by first | decide | (simp [Value.category]; done)) (Nat.le_refl _) H (fun r M26 HH hE => ?_)
    obtain ⟨r27, hr, H⟩ := HH hE
    subst hr
    have ho1 := ok_E ho1 hE
    show T _ _ _ _ [.int r27, .int x1, .ref b23] _ _
    refine xt_iconst (v := 1) dX11_beat_446 (by decide) ?_
    refine xt_icmp_ne (tgt := 454) dX11_beat_447 (by decide) (fun hc => ?_) (fun hc => ?_)
    · have H := H.1 hc
      refine xt_iconst (v := 0) dX11_beat_454 (by decide) ?_
      exact xt_sub [0, 1] rfl (VX11_beat_455 H)
    · have H := H.2 hc
      refine xt_iconst (v := 1) dX11_beat_450 (by decide) ?_
      refine xt_goto (tgt := 455) dX11_beat_451 (by decide) ?_
      exact xt_sub [0, 1] rfl (VX11_beat_455 H)
  · have H := H.2 hc
    refine xt_aload_n (j := 0) dX11_beat_353 rfl rfl ?_
    obtain ⟨ho28, H⟩ := H
    obtain ⟨b29, hb, H⟩ := H
    refine xt_getR dX11_beat_354 (flX11_246 rfl) ft_13_98 ho28.1 ho28.2 hb ?_
    refine xt_bipush (v := 6) dX11_beat_357 (by decide) ?_
    refine xt_iload_n (j := 1) dX11_beat_359 rfl rfl ?_
    refine xt_imul dX11_beat_360 ?_
    refine xt_iload (j := 2) dX11_beat_361 rfl ?_
    refine xt_iadd dX11_beat_363 ?_
    refine xt_aload_n (j := 0) dX11_beat_364 rfl rfl ?_
    obtain ⟨b30, hb, H⟩ := H
    refine xt_getR dX11_beat_365 (flX11_282 rfl) ft_13_110 ho28.1 ho28.2 hb ?_
    refine xt_iload (j := 2) dX11_beat_368 rfl ?_
    obtain ⟨ho31, H⟩ := H
    obtain ⟨hi, H⟩ := H
    refine xt_lald dX11_beat_370 ho31.1 ho31.2 hi ?_
    obtain ⟨ho32, H⟩ := H
    obtain ⟨hi, H⟩ := H
    obtain ⟨M33, eM33⟩ : ∃ z, z = wAJ M b29 ((6 * x1) + x4 : Int32).toNatClampNeg (mAJ M b30 (x4 : Int32).toNatClampNeg) := ⟨_, rfl⟩
    have H := H _ eM33
    refine xt_last dX11_beat_371 ho32.1 ho32.2 hi ?_
    have ho28 : ok M33 x0 13 := by rw [eM33]; exact ho28
    rw [← eM33]
    refine xt_iinc (j := 2) (v := x4 + 1) (lv' := [(4, .int (x4 + 1)), (0, .ref x0), (1, .int x1)]) dX11_beat_372 rfl (by rfl) (by decide) rfl ?_
    refine xt_goto (tgt := 346) dX11_beat_375 (by decide) ?_
    exact xt_sub (lv' := [(0, .ref x0), (1, .int x1), (4, .int (x4 + 1))]) [1, 2, 0] rfl H
def DX11_beat_311 (h : Nat) (x0 : Nat) (x1 : Int32) (x4 : Int32) (M : Mem) (Q : Option Value → Mem → Prop) : Prop :=
  (16 ≤ x4 → T (h + 1) mdX11_beat 346 [(0, .ref x0), (1, .int x1), (4, .int 0)] [] M Q) ∧
  (¬ (16 ≤ x4) → ok M x0 13 ∧ ∃ b2 : Nat, mR M x0 97 = some b2 ∧ ∃ b3 : Nat, mR M x0 109 = some b3 ∧ ok M b3 23 ∧ vp_in x4 (mL M b3) ∧ ok M b2 23 ∧ vp_in ((16 * x1) + x4) (mL M b2) ∧ ∀ M6 : Mem, M6 = wAJ M b2 ((16 * x1) + x4 : Int32).toNatClampNeg (mAJ M b3 (x4 : Int32).toNatClampNeg) →
  T (h + 1) mdX11_beat 311 [(0, .ref x0), (1, .int x1), (4, .int (x4 + 1))] [] M6 Q)
set_option maxRecDepth 20000 in
set_option maxHeartbeats 2000000 in
theorem VX11_beat_311 {h : Nat} {x0 : Nat} {x1 : Int32} {x4 : Int32} {M : Mem} {Q : Option Value → Mem → Prop} (H : DX11_beat_311 h x0 x1 x4 M Q) : T (h + 1) mdX11_beat 311 [(0, .ref x0), (1, .int x1), (4, .int x4)] [] M Q := by
  unfold DX11_beat_311 at H
  refine xt_iload (j := 2) dX11_beat_311 rfl ?_
  refine xt_bipush (v := 16) dX11_beat_313 (by decide) ?_
  refine xt_icmp_ge (tgt := 343) dX11_beat_315 (by decide) (fun hc => ?_) (fun hc => ?_)
  · have H := H.1 hc
    refine xt_iconst (v := 0) dX11_beat_343 (by decide) ?_
    refine xt_istore (lv' := [(4, .int 0), (0, .ref x0), (1, .int x1)]) dX11_beat_344 (by decide) rfl ?_
    exact xt_sub (lv' := [(0, .ref x0), (1, .int x1), (4, .int 0)]) [1, 2, 0] rfl H
  · have H := H.2 hc
    refine xt_aload_n (j := 0) dX11_beat_318 rfl rfl ?_
    obtain ⟨ho1, H⟩ := H
    obtain ⟨b2, hb, H⟩ := H
    refine xt_getR dX11_beat_319 (flX11_243 rfl) ft_13_97 ho1.1 ho1.2 hb ?_
    refine xt_bipush (v := 16) dX11_beat_322 (by decide) ?_
    refine xt_iload_n (j := 1) dX11_beat_324 rfl rfl ?_
    refine xt_imul dX11_beat_325 ?_
    refine xt_iload (j := 2) dX11_beat_326 rfl ?_
    refine xt_iadd dX11_beat_328 ?_
    refine xt_aload_n (j := 0) dX11_beat_329 rfl rfl ?_
    obtain ⟨b3, hb, H⟩ := H
    refine xt_getR dX11_beat_330 (flX11_279 rfl) ft_13_109 ho1.1 ho1.2 hb ?_
    refine xt_iload (j := 2) dX11_beat_333 rfl ?_
    obtain ⟨ho4, H⟩ := H
    obtain ⟨hi, H⟩ := H
    refine xt_lald dX11_beat_335 ho4.1 ho4.2 hi ?_
    obtain ⟨ho5, H⟩ := H
    obtain ⟨hi, H⟩ := H
    obtain ⟨M6, eM6⟩ : ∃ z, z = wAJ M b2 ((16 * x1) + x4 : Int32).toNatClampNeg (mAJ M b3 (x4 : Int32).toNatClampNeg) := ⟨_, rfl⟩
    have H := H _ eM6
    refine xt_last dX11_beat_336 ho5.1 ho5.2 hi ?_
    have ho1 : ok M6 x0 13 := by rw [eM6]; exact ho1
    rw [← eM6]
    refine xt_iinc (j := 2) (v := x4 + 1) (lv' := [(4, .int (x4 + 1)), (0, .ref x0), (1, .int x1)]) dX11_beat_337 rfl (by rfl) (by decide) rfl ?_
    refine xt_goto (tgt := 311) dX11_beat_340 (by decide) ?_
    exact xt_sub (lv' := [(0, .ref x0), (1, .int x1), (4, .int (x4 + 1))]) [1, 2, 0] rfl H
def DX11_beat_266 (h : Nat) (x0 : Nat) (x1 : Int32) (x3 : Int32) (M : Mem) (Q : Option Value → Mem → Prop) : Prop :=
  T (h + 1) mdX11_beat 191 [(0, .ref x0), (1, .int x1), (3, .int (x3 + 1))] [] M Q
set_option maxRecDepth 20000 in
set_option maxHeartbeats 2000000 in
theorem VX11_beat_266 {h : Nat} {x0 : Nat} {x1 : Int32} {x3 : Int32} {M : Mem} {Q : Option Value → Mem → Prop} (H : DX11_beat_266 h x0 x1 x3 M Q) : T (h + 1) mdX11_beat 266 [(0, .ref x0), (1, .int x1), (3, .int x3)] [] M Q := by
  unfold DX11_beat_266 at H
  refine xt_iinc (j := 2) (v := x3 + 1) (lv' := [(3, .int (x3 + 1)), (0, .ref x0), (1, .int x1)]) dX11_beat_266 rfl (by rfl) (by decide) rfl ?_
  refine xt_goto (tgt := 191) dX11_beat_269 (by decide) ?_
  exact xt_sub (lv' := [(0, .ref x0), (1, .int x1), (3, .int (x3 + 1))]) [1, 2, 0] rfl H
def DX11_beat_191 (h : Nat) (x0 : Nat) (x1 : Int32) (x3 : Int32) (M : Mem) (Q : Option Value → Mem → Prop) : Prop :=
  ok M x0 13 ∧ ∃ b2 : Nat, mR M x0 9 = some b2 ∧ ok M b2 21 ∧ vp_in (mI M x0 84) (mL M b2) ∧ ((mAI M b2 (mI M x0 84 : Int32).toNatClampNeg) ≤ x3 → E h mdX11_workParts [.ref x0] M (fun r M4 => mE M M4 → ∃ r5 : Int32, r = some (.int r5) ∧ (r5 = (-1) → T (h + 1) mdX11_beat 311 [(0, .ref x0), (1, .int x1), (4, .int 0)] [] M4 Q) ∧
  (¬ (r5 = (-1)) → ∃ b6 : Nat, mR M4 x0 104 = some b6 ∧ ok M4 b6 21 ∧ vp_in x1 (mL M4 b6) ∧ ∀ M8 : Mem, M8 = wAI M4 b6 (x1 : Int32).toNatClampNeg (mI M4 x0 111) →
  ∃ b9 : Nat, mR M8 x0 105 = some b9 ∧ ok M8 b9 21 ∧ vp_in x1 (mL M8 b9) ∧ ∀ M11 : Mem, M11 = wAI M8 b9 (x1 : Int32).toNatClampNeg r5 →
  ∃ b12 : Nat, mR M11 x0 103 = some b12 ∧ ok M11 b12 21 ∧ vp_in x1 (mL M11 b12) ∧ ∀ M14 : Mem, M14 = wAI M11 b12 (x1 : Int32).toNatClampNeg 2 →
  Q (some (.int 2)) M14))) ∧
  (¬ ((mAI M b2 (mI M x0 84 : Int32).toNatClampNeg) ≤ x3) → ∃ b15 : Nat, mR M x0 15 = some b15 ∧ ok M b15 21 ∧ vp_in ((4 * (mI M x0 84)) + x3) (mL M b15) ∧ (¬ (((mI M x0 87) >>> (x3 &&& 31)) &&& 1) = 1 → DX11_beat_266 h x0 x1 x3 M Q) ∧
  ((((mI M x0 87) >>> (x3 &&& 31)) &&& 1) = 1 → ∃ b17 : Nat, mR M x0 13 = some b17 ∧ ok M b17 21 ∧ vp_in ((16 * (mI M x0 84)) + (mAI M b15 ((4 * (mI M x0 84)) + x3 : Int32).toNatClampNeg)) (mL M b17) ∧ ((mAI M b17 ((16 * (mI M x0 84)) + (mAI M b15 ((4 * (mI M x0 84)) + x3 : Int32).toNatClampNeg) : Int32).toNatClampNeg) ≤ 0 → DX11_beat_266 h x0 x1 x3 M Q) ∧
  (¬ ((mAI M b17 ((16 * (mI M x0 84)) + (mAI M b15 ((4 * (mI M x0 84)) + x3 : Int32).toNatClampNeg) : Int32).toNatClampNeg) ≤ 0) → ∃ b19 : Nat, mR M x0 109 = some b19 ∧ ∃ b20 : Nat, mR M x0 102 = some b20 ∧ ok M b20 23 ∧ vp_in ((4 * x1) + x3) (mL M b20) ∧ ok M b19 23 ∧ vp_in (mAI M b15 ((4 * (mI M x0 84)) + x3 : Int32).toNatClampNeg) (mL M b19) ∧ ∀ M23 : Mem, M23 = wAJ M b19 (mAI M b15 ((4 * (mI M x0 84)) + x3 : Int32).toNatClampNeg : Int32).toNatClampNeg (mAJ M b20 ((4 * x1) + x3 : Int32).toNatClampNeg) →
  DX11_beat_266 h x0 x1 x3 M23 Q)))
set_option maxRecDepth 20000 in
set_option maxHeartbeats 2000000 in
theorem VX11_beat_191 {h : Nat} {x0 : Nat} {x1 : Int32} {x3 : Int32} {M : Mem} {Q : Option Value → Mem → Prop} (H : DX11_beat_191 h x0 x1 x3 M Q) : T (h + 1) mdX11_beat 191 [(0, .ref x0), (1, .int x1), (3, .int x3)] [] M Q := by
  unfold DX11_beat_191 at H
  refine xt_iload_n (j := 2) dX11_beat_191 rfl rfl ?_
  refine xt_aload_n (j := 0) dX11_beat_192 rfl rfl ?_
  obtain ⟨ho1, H⟩ := H
  obtain ⟨b2, hb, H⟩ := H
  refine xt_getR dX11_beat_193 (flX11_26 rfl) ft_13_9 ho1.1 ho1.2 hb ?_
  refine xt_aload_n (j := 0) dX11_beat_196 rfl rfl ?_
  refine xt_getI dX11_beat_197 (flX11_742 rfl) ft_13_84 ho1.1 ho1.2 ?_
  obtain ⟨ho3, H⟩ := H
  obtain ⟨hi, H⟩ := H
  refine xt_iald dX11_beat_200 ho3.1 ho3.2 hi ?_
  refine xt_icmp_ge (tgt := 272) dX11_beat_201 (by decide) (fun hc => ?_) (fun hc => ?_)
  · have H := H.1 hc
    refine xt_aload_n (j := 0) dX11_beat_272 rfl rfl ?_
    refine xt_callV (h2 := h) (as := []) (st := []) dX11_beat_273 (mlX11_832 rfl) rfl ho1.1 ⟨by rw [ho1.2]; rfl, by rw [ho1.2]; decide⟩ (by first | decide | (simp [Value.category]; done)) (Nat.le_refl _) H (fun r M4 HH hE => ?_)
    obtain ⟨r5, hr, H⟩ := HH hE
    subst hr
    have ho1 := ok_E ho1 hE
    show T _ _ _ _ [.int r5] _ _
    refine xt_istore_n (lv' := [(3, .int r5), (0, .ref x0), (1, .int x1)]) dX11_beat_276 rfl (by decide) rfl ?_
    refine xt_iload_n (j := 0) dX11_beat_277 rfl rfl ?_
    refine xt_iconst (v := -1) dX11_beat_278 (by decide) ?_
    refine xt_icmp_eq (tgt := 308) dX11_beat_279 (by decide) (fun hc => ?_) (fun hc => ?_)
    · have H := H.1 hc
      refine xt_iconst (v := 0) dX11_beat_308 (by decide) ?_
      refine xt_istore (lv' := [(4, .int 0), (3, .int r5), (0, .ref x0), (1, .int x1)]) dX11_beat_309 (by decide) rfl ?_
      exact xt_sub (lv' := [(0, .ref x0), (1, .int x1), (4, .int 0)]) [2, 3, 0] rfl H
    · have H := H.2 hc
      refine xt_aload_n (j := 1) dX11_beat_282 rfl rfl ?_
      obtain ⟨b6, hb, H⟩ := H
      refine xt_getR dX11_beat_283 (flX11_264 rfl) ft_13_104 ho1.1 ho1.2 hb ?_
      refine xt_iload_n (j := 2) dX11_beat_286 rfl rfl ?_
      refine xt_aload_n (j := 1) dX11_beat_287 rfl rfl ?_
      refine xt_getI dX11_beat_288 (flX11_802 rfl) ft_13_111 ho1.1 ho1.2 ?_
      obtain ⟨ho7, H⟩ := H
      obtain ⟨hi, H⟩ := H
      obtain ⟨M8, eM8⟩ : ∃ z, z = wAI M4 b6 (x1 : Int32).toNatClampNeg (mI M4 x0 111) := ⟨_, rfl⟩
      have H := H _ eM8
      refine xt_iast dX11_beat_291 ho7.1 ho7.2 hi ?_
      have ho1 : ok M8 x0 13 := by rw [eM8]; exact ho1
      rw [← eM8]
      refine xt_aload_n (j := 1) dX11_beat_292 rfl rfl ?_
      obtain ⟨b9, hb, H⟩ := H
      refine xt_getR dX11_beat_293 (flX11_267 rfl) ft_13_105 ho1.1 ho1.2 hb ?_
      refine xt_iload_n (j := 2) dX11_beat_296 rfl rfl ?_
      refine xt_iload_n (j := 0) dX11_beat_297 rfl rfl ?_
      obtain ⟨ho10, H⟩ := H
      obtain ⟨hi, H⟩ := H
      obtain ⟨M11, eM11⟩ : ∃ z, z = wAI M8 b9 (x1 : Int32).toNatClampNeg r5 := ⟨_, rfl⟩
      have H := H _ eM11
      refine xt_iast dX11_beat_298 ho10.1 ho10.2 hi ?_
      have ho1 : ok M11 x0 13 := by rw [eM11]; exact ho1
      rw [← eM11]
      refine xt_aload_n (j := 1) dX11_beat_299 rfl rfl ?_
      obtain ⟨b12, hb, H⟩ := H
      refine xt_getR dX11_beat_300 (flX11_261 rfl) ft_13_103 ho1.1 ho1.2 hb ?_
      refine xt_iload_n (j := 2) dX11_beat_303 rfl rfl ?_
      refine xt_iconst (v := 2) dX11_beat_304 (by decide) ?_
      obtain ⟨ho13, H⟩ := H
      obtain ⟨hi, H⟩ := H
      obtain ⟨M14, eM14⟩ : ∃ z, z = wAI M11 b12 (x1 : Int32).toNatClampNeg 2 := ⟨_, rfl⟩
      have H := H _ eM14
      refine xt_iast dX11_beat_305 ho13.1 ho13.2 hi ?_
      have ho1 : ok M14 x0 13 := by rw [eM14]; exact ho1
      rw [← eM14]
      refine xt_iconst (v := 2) dX11_beat_306 (by decide) ?_
      exact xt_ireturn dX11_beat_307 rfl H
  · have H := H.2 hc
    refine xt_aload_n (j := 0) dX11_beat_204 rfl rfl ?_
    obtain ⟨b15, hb, H⟩ := H
    refine xt_getR dX11_beat_205 (flX11_45 rfl) ft_13_15 ho1.1 ho1.2 hb ?_
    refine xt_iconst (v := 4) dX11_beat_208 (by decide) ?_
    refine xt_aload_n (j := 0) dX11_beat_209 rfl rfl ?_
    refine xt_getI dX11_beat_210 (flX11_742 rfl) ft_13_84 ho1.1 ho1.2 ?_
    refine xt_imul dX11_beat_213 ?_
    refine xt_iload_n (j := 2) dX11_beat_214 rfl rfl ?_
    refine xt_iadd dX11_beat_215 ?_
    obtain ⟨ho16, H⟩ := H
    obtain ⟨hi, H⟩ := H
    refine xt_iald dX11_beat_216 ho16.1 ho16.2 hi ?_
    refine xt_istore (lv' := [(4, .int (mAI M b15 ((4 * (mI M x0 84)) + x3 : Int32).toNatClampNeg)), (0, .ref x0), (1, .int x1), (3, .int x3)]) dX11_beat_217 (by decide) rfl ?_
    refine xt_aload_n (j := 1) dX11_beat_219 rfl rfl ?_
    refine xt_getI dX11_beat_220 (flX11_777 rfl) ft_13_87 ho1.1 ho1.2 ?_
    refine xt_iload_n (j := 3) dX11_beat_223 rfl rfl ?_
    refine xt_ishr dX11_beat_224 ?_
    refine xt_iconst (v := 1) dX11_beat_225 (by decide) ?_
    refine xt_iand dX11_beat_226 ?_
    refine xt_iconst (v := 1) dX11_beat_227 (by decide) ?_
    refine xt_icmp_ne (tgt := 266) dX11_beat_228 (by decide) (fun hc => ?_) (fun hc => ?_)
    · have H := H.1 hc
      exact xt_sub [1, 2, 3] rfl (VX11_beat_266 H)
    · have H := H.2 hc
      refine xt_aload_n (j := 1) dX11_beat_231 rfl rfl ?_
      obtain ⟨b17, hb, H⟩ := H
      refine xt_getR dX11_beat_232 (flX11_38 rfl) ft_13_13 ho1.1 ho1.2 hb ?_
      refine xt_bipush (v := 16) dX11_beat_235 (by decide) ?_
      refine xt_aload_n (j := 1) dX11_beat_237 rfl rfl ?_
      refine xt_getI dX11_beat_238 (flX11_742 rfl) ft_13_84 ho1.1 ho1.2 ?_
      refine xt_imul dX11_beat_241 ?_
      refine xt_iload (j := 0) dX11_beat_242 rfl ?_
      refine xt_iadd dX11_beat_244 ?_
      obtain ⟨ho18, H⟩ := H
      obtain ⟨hi, H⟩ := H
      refine xt_iald dX11_beat_245 ho18.1 ho18.2 hi ?_
      refine xt_if_le (tgt := 266) dX11_beat_246 (by decide) (fun hc => ?_) (fun hc => ?_)
      · have H := H.1 hc
        exact xt_sub [1, 2, 3] rfl (VX11_beat_266 H)
      · have H := H.2 hc
        refine xt_aload_n (j := 1) dX11_beat_249 rfl rfl ?_
        obtain ⟨b19, hb, H⟩ := H
        refine xt_getR dX11_beat_250 (flX11_279 rfl) ft_13_109 ho1.1 ho1.2 hb ?_
        refine xt_iload (j := 0) dX11_beat_253 rfl ?_
        refine xt_aload_n (j := 1) dX11_beat_255 rfl rfl ?_
        obtain ⟨b20, hb, H⟩ := H
        refine xt_getR dX11_beat_256 (flX11_258 rfl) ft_13_102 ho1.1 ho1.2 hb ?_
        refine xt_iconst (v := 4) dX11_beat_259 (by decide) ?_
        refine xt_iload_n (j := 2) dX11_beat_260 rfl rfl ?_
        refine xt_imul dX11_beat_261 ?_
        refine xt_iload_n (j := 3) dX11_beat_262 rfl rfl ?_
        refine xt_iadd dX11_beat_263 ?_
        obtain ⟨ho21, H⟩ := H
        obtain ⟨hi, H⟩ := H
        refine xt_lald dX11_beat_264 ho21.1 ho21.2 hi ?_
        obtain ⟨ho22, H⟩ := H
        obtain ⟨hi, H⟩ := H
        obtain ⟨M23, eM23⟩ : ∃ z, z = wAJ M b19 (mAI M b15 ((4 * (mI M x0 84)) + x3 : Int32).toNatClampNeg : Int32).toNatClampNeg (mAJ M b20 ((4 * x1) + x3 : Int32).toNatClampNeg) := ⟨_, rfl⟩
        have H := H _ eM23
        refine xt_last dX11_beat_265 ho22.1 ho22.2 hi ?_
        have ho1 : ok M23 x0 13 := by rw [eM23]; exact ho1
        rw [← eM23]
        exact xt_sub [1, 2, 3] rfl (VX11_beat_266 H)
def DX11_beat_105 (h : Nat) (x0 : Nat) (x1 : Int32) (x2 : Int32) (M : Mem) (Q : Option Value → Mem → Prop) : Prop :=
  (6 ≤ x2 → ok M x0 13 ∧ E h mdX11_workIfs [.ref x0] M (fun r M2 => mE M M2 → r = none ∧ E h mdX11_solve [.ref x0] M2 (fun r M3 => mE M2 M3 → ∃ r4 : Int32, r = some (.int r4) ∧ E h mdX11_keepWires [.ref x0, .int x1] M3 (fun r M5 => mE M3 M5 → r = none ∧ ∃ b6 : Nat, mR M5 x0 101 = some b6 ∧ ok M5 b6 21 ∧ vp_in x1 (mL M5 b6) ∧ ∀ M8 : Mem, M8 = wAI M5 b6 (x1 : Int32).toNatClampNeg 0 →
  ∃ b9 : Nat, mR M8 x0 106 = some b9 ∧ ok M8 b9 21 ∧ vp_in x1 (mL M8 b9) ∧ ∀ M11 : Mem, M11 = wAI M8 b9 (x1 : Int32).toNatClampNeg 0 →
  ∃ b12 : Nat, mR M11 x0 104 = some b12 ∧ ok M11 b12 21 ∧ vp_in x1 (mL M11 b12) ∧ ∀ M14 : Mem, M14 = wAI M11 b12 (x1 : Int32).toNatClampNeg 0 →
  ∃ b15 : Nat, mR M14 x0 105 = some b15 ∧ ok M14 b15 21 ∧ vp_in x1 (mL M14 b15) ∧ ∀ M17 : Mem, M17 = wAI M14 b15 (x1 : Int32).toNatClampNeg (-1) →
  (¬ r4 = 0 → T (h + 1) mdX11_beat 191 [(0, .ref x0), (1, .int x1), (3, .int 0)] [] M17 Q) ∧
  (r4 = 0 → ∃ b18 : Nat, mR M17 x0 103 = some b18 ∧ ok M17 b18 21 ∧ vp_in x1 (mL M17 b18) ∧ ∀ M20 : Mem, M20 = wAI M17 b18 (x1 : Int32).toNatClampNeg 3 →
  Q (some (.int 3)) M20))))) ∧
  (¬ (6 ≤ x2) → ok M x0 13 ∧ ∃ b22 : Nat, mR M x0 110 = some b22 ∧ ∃ b23 : Nat, mR M x0 98 = some b23 ∧ ok M b23 23 ∧ vp_in ((6 * x1) + x2) (mL M b23) ∧ ok M b22 23 ∧ vp_in x2 (mL M b22) ∧ ∀ M26 : Mem, M26 = wAJ M b22 (x2 : Int32).toNatClampNeg (mAJ M b23 ((6 * x1) + x2 : Int32).toNatClampNeg) →
  T (h + 1) mdX11_beat 105 [(0, .ref x0), (1, .int x1), (2, .int (x2 + 1))] [] M26 Q)
set_option maxRecDepth 20000 in
set_option maxHeartbeats 2000000 in
theorem VX11_beat_105 {h : Nat} {x0 : Nat} {x1 : Int32} {x2 : Int32} {M : Mem} {Q : Option Value → Mem → Prop} (H : DX11_beat_105 h x0 x1 x2 M Q) : T (h + 1) mdX11_beat 105 [(0, .ref x0), (1, .int x1), (2, .int x2)] [] M Q := by
  unfold DX11_beat_105 at H
  refine xt_iload_n (j := 2) dX11_beat_105 rfl rfl ?_
  refine xt_bipush (v := 6) dX11_beat_106 (by decide) ?_
  refine xt_icmp_ge (tgt := 134) dX11_beat_108 (by decide) (fun hc => ?_) (fun hc => ?_)
  · have H := H.1 hc
    refine xt_aload_n (j := 0) dX11_beat_134 rfl rfl ?_
    obtain ⟨ho1, H⟩ := H
    refine xt_callV (h2 := h) (as := []) (st := []) dX11_beat_135 (mlX11_823 rfl) rfl ho1.1 ⟨by rw [ho1.2]; rfl, by rw [ho1.2]; decide⟩ (by first | decide | (simp [Value.category]; done)) (Nat.le_refl _) H (fun r M2 HH hE => ?_)
    obtain ⟨hr, H⟩ := HH hE
    subst hr
    have ho1 := ok_E ho1 hE
    show T _ _ _ _ [] _ _
    refine xt_aload_n (j := 0) dX11_beat_138 rfl rfl ?_
    refine xt_callV (h2 := h) (as := []) (st := []) dX11_beat_139 (mlX11_826 rfl) rfl ho1.1 ⟨by rw [ho1.2]; rfl, by rw [ho1.2]; decide⟩ (by first | decide | (simp [Value.category]; done)) (Nat.le_refl _) H (fun r M3 HH hE => ?_)
    obtain ⟨r4, hr, H⟩ := HH hE
    subst hr
    have ho1 := ok_E ho1 hE
    show T _ _ _ _ [.int r4] _ _
    refine xt_istore_n (lv' := [(2, .int r4), (0, .ref x0), (1, .int x1)]) dX11_beat_142 rfl (by decide) rfl ?_
    refine xt_aload_n (j := 1) dX11_beat_143 rfl rfl ?_
    refine xt_iload_n (j := 2) dX11_beat_144 rfl rfl ?_
    refine xt_callV (h2 := h) (as := [.int x1]) (st := []) dX11_beat_145 (mlX11_829 rfl) rfl ho1.1 ⟨by rw [ho1.2]; rfl, by rw [ho1.2]; decide⟩ (by first | decide | (simp [Value.category]; done)) (Nat.le_refl _) H (fun r M5 HH hE => ?_)
    obtain ⟨hr, H⟩ := HH hE
    subst hr
    have ho1 := ok_E ho1 hE
    show T _ _ _ _ [] _ _
    refine xt_aload_n (j := 1) dX11_beat_148 rfl rfl ?_
    obtain ⟨b6, hb, H⟩ := H
    refine xt_getR dX11_beat_149 (flX11_255 rfl) ft_13_101 ho1.1 ho1.2 hb ?_
    refine xt_iload_n (j := 2) dX11_beat_152 rfl rfl ?_
    refine xt_iconst (v := 0) dX11_beat_153 (by decide) ?_
    obtain ⟨ho7, H⟩ := H
    obtain ⟨hi, H⟩ := H
    obtain ⟨M8, eM8⟩ : ∃ z, z = wAI M5 b6 (x1 : Int32).toNatClampNeg 0 := ⟨_, rfl⟩
    have H := H _ eM8
    refine xt_iast dX11_beat_154 ho7.1 ho7.2 hi ?_
    have ho1 : ok M8 x0 13 := by rw [eM8]; exact ho1
    rw [← eM8]
    refine xt_aload_n (j := 1) dX11_beat_155 rfl rfl ?_
    obtain ⟨b9, hb, H⟩ := H
    refine xt_getR dX11_beat_156 (flX11_270 rfl) ft_13_106 ho1.1 ho1.2 hb ?_
    refine xt_iload_n (j := 2) dX11_beat_159 rfl rfl ?_
    refine xt_iconst (v := 0) dX11_beat_160 (by decide) ?_
    obtain ⟨ho10, H⟩ := H
    obtain ⟨hi, H⟩ := H
    obtain ⟨M11, eM11⟩ : ∃ z, z = wAI M8 b9 (x1 : Int32).toNatClampNeg 0 := ⟨_, rfl⟩
    have H := H _ eM11
    refine xt_iast dX11_beat_161 ho10.1 ho10.2 hi ?_
    have ho1 : ok M11 x0 13 := by rw [eM11]; exact ho1
    rw [← eM11]
    refine xt_aload_n (j := 1) dX11_beat_162 rfl rfl ?_
    obtain ⟨b12, hb, H⟩ := H
    refine xt_getR dX11_beat_163 (flX11_264 rfl) ft_13_104 ho1.1 ho1.2 hb ?_
    refine xt_iload_n (j := 2) dX11_beat_166 rfl rfl ?_
    refine xt_iconst (v := 0) dX11_beat_167 (by decide) ?_
    obtain ⟨ho13, H⟩ := H
    obtain ⟨hi, H⟩ := H
    obtain ⟨M14, eM14⟩ : ∃ z, z = wAI M11 b12 (x1 : Int32).toNatClampNeg 0 := ⟨_, rfl⟩
    have H := H _ eM14
    refine xt_iast dX11_beat_168 ho13.1 ho13.2 hi ?_
    have ho1 : ok M14 x0 13 := by rw [eM14]; exact ho1
    rw [← eM14]
    refine xt_aload_n (j := 1) dX11_beat_169 rfl rfl ?_
    obtain ⟨b15, hb, H⟩ := H
    refine xt_getR dX11_beat_170 (flX11_267 rfl) ft_13_105 ho1.1 ho1.2 hb ?_
    refine xt_iload_n (j := 2) dX11_beat_173 rfl rfl ?_
    refine xt_iconst (v := -1) dX11_beat_174 (by decide) ?_
    obtain ⟨ho16, H⟩ := H
    obtain ⟨hi, H⟩ := H
    obtain ⟨M17, eM17⟩ : ∃ z, z = wAI M14 b15 (x1 : Int32).toNatClampNeg (-1) := ⟨_, rfl⟩
    have H := H _ eM17
    refine xt_iast dX11_beat_175 ho16.1 ho16.2 hi ?_
    have ho1 : ok M17 x0 13 := by rw [eM17]; exact ho1
    rw [← eM17]
    refine xt_iload_n (j := 0) dX11_beat_176 rfl rfl ?_
    refine xt_if_ne (tgt := 189) dX11_beat_177 (by decide) (fun hc => ?_) (fun hc => ?_)
    · have H := H.1 hc
      refine xt_iconst (v := 0) dX11_beat_189 (by decide) ?_
      refine xt_istore_n (lv' := [(3, .int 0), (2, .int r4), (0, .ref x0), (1, .int x1)]) dX11_beat_190 rfl (by decide) rfl ?_
      exact xt_sub (lv' := [(0, .ref x0), (1, .int x1), (3, .int 0)]) [2, 3, 0] rfl H
    · have H := H.2 hc
      refine xt_aload_n (j := 1) dX11_beat_180 rfl rfl ?_
      obtain ⟨b18, hb, H⟩ := H
      refine xt_getR dX11_beat_181 (flX11_261 rfl) ft_13_103 ho1.1 ho1.2 hb ?_
      refine xt_iload_n (j := 2) dX11_beat_184 rfl rfl ?_
      refine xt_iconst (v := 3) dX11_beat_185 (by decide) ?_
      obtain ⟨ho19, H⟩ := H
      obtain ⟨hi, H⟩ := H
      obtain ⟨M20, eM20⟩ : ∃ z, z = wAI M17 b18 (x1 : Int32).toNatClampNeg 3 := ⟨_, rfl⟩
      have H := H _ eM20
      refine xt_iast dX11_beat_186 ho19.1 ho19.2 hi ?_
      have ho1 : ok M20 x0 13 := by rw [eM20]; exact ho1
      rw [← eM20]
      refine xt_iconst (v := 3) dX11_beat_187 (by decide) ?_
      exact xt_ireturn dX11_beat_188 rfl H
  · have H := H.2 hc
    refine xt_aload_n (j := 0) dX11_beat_111 rfl rfl ?_
    obtain ⟨ho21, H⟩ := H
    obtain ⟨b22, hb, H⟩ := H
    refine xt_getR dX11_beat_112 (flX11_282 rfl) ft_13_110 ho21.1 ho21.2 hb ?_
    refine xt_iload_n (j := 2) dX11_beat_115 rfl rfl ?_
    refine xt_aload_n (j := 0) dX11_beat_116 rfl rfl ?_
    obtain ⟨b23, hb, H⟩ := H
    refine xt_getR dX11_beat_117 (flX11_246 rfl) ft_13_98 ho21.1 ho21.2 hb ?_
    refine xt_bipush (v := 6) dX11_beat_120 (by decide) ?_
    refine xt_iload_n (j := 1) dX11_beat_122 rfl rfl ?_
    refine xt_imul dX11_beat_123 ?_
    refine xt_iload_n (j := 2) dX11_beat_124 rfl rfl ?_
    refine xt_iadd dX11_beat_125 ?_
    obtain ⟨ho24, H⟩ := H
    obtain ⟨hi, H⟩ := H
    refine xt_lald dX11_beat_126 ho24.1 ho24.2 hi ?_
    obtain ⟨ho25, H⟩ := H
    obtain ⟨hi, H⟩ := H
    obtain ⟨M26, eM26⟩ : ∃ z, z = wAJ M b22 (x2 : Int32).toNatClampNeg (mAJ M b23 ((6 * x1) + x2 : Int32).toNatClampNeg) := ⟨_, rfl⟩
    have H := H _ eM26
    refine xt_last dX11_beat_127 ho25.1 ho25.2 hi ?_
    have ho21 : ok M26 x0 13 := by rw [eM26]; exact ho21
    rw [← eM26]
    refine xt_iinc (j := 2) (v := x2 + 1) (lv' := [(2, .int (x2 + 1)), (0, .ref x0), (1, .int x1)]) dX11_beat_128 rfl (by rfl) (by decide) rfl ?_
    refine xt_goto (tgt := 105) dX11_beat_131 (by decide) ?_
    exact xt_sub (lv' := [(0, .ref x0), (1, .int x1), (2, .int (x2 + 1))]) [1, 2, 0] rfl H
def DX11_beat_74 (h : Nat) (x0 : Nat) (x1 : Int32) (x2 : Int32) (M : Mem) (Q : Option Value → Mem → Prop) : Prop :=
  (16 ≤ x2 → T (h + 1) mdX11_beat 105 [(0, .ref x0), (1, .int x1), (2, .int 0)] [] M Q) ∧
  (¬ (16 ≤ x2) → ok M x0 13 ∧ ∃ b2 : Nat, mR M x0 109 = some b2 ∧ ∃ b3 : Nat, mR M x0 97 = some b3 ∧ ok M b3 23 ∧ vp_in ((16 * x1) + x2) (mL M b3) ∧ ok M b2 23 ∧ vp_in x2 (mL M b2) ∧ ∀ M6 : Mem, M6 = wAJ M b2 (x2 : Int32).toNatClampNeg (mAJ M b3 ((16 * x1) + x2 : Int32).toNatClampNeg) →
  T (h + 1) mdX11_beat 74 [(0, .ref x0), (1, .int x1), (2, .int (x2 + 1))] [] M6 Q)
set_option maxRecDepth 20000 in
set_option maxHeartbeats 2000000 in
theorem VX11_beat_74 {h : Nat} {x0 : Nat} {x1 : Int32} {x2 : Int32} {M : Mem} {Q : Option Value → Mem → Prop} (H : DX11_beat_74 h x0 x1 x2 M Q) : T (h + 1) mdX11_beat 74 [(0, .ref x0), (1, .int x1), (2, .int x2)] [] M Q := by
  unfold DX11_beat_74 at H
  refine xt_iload_n (j := 2) dX11_beat_74 rfl rfl ?_
  refine xt_bipush (v := 16) dX11_beat_75 (by decide) ?_
  refine xt_icmp_ge (tgt := 103) dX11_beat_77 (by decide) (fun hc => ?_) (fun hc => ?_)
  · have H := H.1 hc
    refine xt_iconst (v := 0) dX11_beat_103 (by decide) ?_
    refine xt_istore_n (lv' := [(2, .int 0), (0, .ref x0), (1, .int x1)]) dX11_beat_104 rfl (by decide) rfl ?_
    exact xt_sub (lv' := [(0, .ref x0), (1, .int x1), (2, .int 0)]) [1, 2, 0] rfl H
  · have H := H.2 hc
    refine xt_aload_n (j := 0) dX11_beat_80 rfl rfl ?_
    obtain ⟨ho1, H⟩ := H
    obtain ⟨b2, hb, H⟩ := H
    refine xt_getR dX11_beat_81 (flX11_279 rfl) ft_13_109 ho1.1 ho1.2 hb ?_
    refine xt_iload_n (j := 2) dX11_beat_84 rfl rfl ?_
    refine xt_aload_n (j := 0) dX11_beat_85 rfl rfl ?_
    obtain ⟨b3, hb, H⟩ := H
    refine xt_getR dX11_beat_86 (flX11_243 rfl) ft_13_97 ho1.1 ho1.2 hb ?_
    refine xt_bipush (v := 16) dX11_beat_89 (by decide) ?_
    refine xt_iload_n (j := 1) dX11_beat_91 rfl rfl ?_
    refine xt_imul dX11_beat_92 ?_
    refine xt_iload_n (j := 2) dX11_beat_93 rfl rfl ?_
    refine xt_iadd dX11_beat_94 ?_
    obtain ⟨ho4, H⟩ := H
    obtain ⟨hi, H⟩ := H
    refine xt_lald dX11_beat_95 ho4.1 ho4.2 hi ?_
    obtain ⟨ho5, H⟩ := H
    obtain ⟨hi, H⟩ := H
    obtain ⟨M6, eM6⟩ : ∃ z, z = wAJ M b2 (x2 : Int32).toNatClampNeg (mAJ M b3 ((16 * x1) + x2 : Int32).toNatClampNeg) := ⟨_, rfl⟩
    have H := H _ eM6
    refine xt_last dX11_beat_96 ho5.1 ho5.2 hi ?_
    have ho1 : ok M6 x0 13 := by rw [eM6]; exact ho1
    rw [← eM6]
    refine xt_iinc (j := 2) (v := x2 + 1) (lv' := [(2, .int (x2 + 1)), (0, .ref x0), (1, .int x1)]) dX11_beat_97 rfl (by rfl) (by decide) rfl ?_
    refine xt_goto (tgt := 74) dX11_beat_100 (by decide) ?_
    exact xt_sub (lv' := [(0, .ref x0), (1, .int x1), (2, .int (x2 + 1))]) [1, 2, 0] rfl H
def DX11_beat_0 (h : Nat) (x0 : Nat) (x1 : Int32) (M : Mem) (Q : Option Value → Mem → Prop) : Prop :=
  ok M x0 13 ∧ E h mdX11_isGovernor [.ref x0, .int x1] M (fun r M2 => mE M M2 → ∃ r3 : Int32, r = some (.int r3) ∧ (¬ r3 = 0 → ∃ b4 : Nat, mR M2 x0 94 = some b4 ∧ ok M2 b4 22 ∧ vp_in x1 (mL M2 b4) ∧ ((mAI M2 b4 (x1 : Int32).toNatClampNeg) = 0 → ∃ b6 : Nat, mR M2 x0 92 = some b6 ∧ ok M2 b6 21 ∧ vp_in x1 (mL M2 b6) ∧ ∀ M8 : Mem, M8 = wI M2 x0 84 (mAI M2 b6 (x1 : Int32).toNatClampNeg) →
  ∃ b9 : Nat, mR M8 x0 95 = some b9 ∧ ok M8 b9 21 ∧ vp_in x1 (mL M8 b9) ∧ ∀ M11 : Mem, M11 = wI M8 x0 85 (mAI M8 b9 (x1 : Int32).toNatClampNeg) →
  ∃ b12 : Nat, mR M11 x0 96 = some b12 ∧ ok M11 b12 21 ∧ vp_in x1 (mL M11 b12) ∧ ∀ M14 : Mem, M14 = wI M11 x0 86 (mAI M11 b12 (x1 : Int32).toNatClampNeg) →
  ∃ b15 : Nat, mR M14 x0 101 = some b15 ∧ ok M14 b15 21 ∧ vp_in x1 (mL M14 b15) ∧ ∀ M17 : Mem, M17 = wI M14 x0 87 (mAI M14 b15 (x1 : Int32).toNatClampNeg) →
  ∃ b18 : Nat, mR M17 x0 93 = some b18 ∧ ok M17 b18 22 ∧ vp_in x1 (mL M17 b18) ∧ ((mAI M17 b18 (x1 : Int32).toNatClampNeg) = 0 ∨ (mAI M17 b18 (x1 : Int32).toNatClampNeg) = 1) ∧ ∀ M20 : Mem, M20 = wI M17 x0 89 (mAI M17 b18 (x1 : Int32).toNatClampNeg) →
  T (h + 1) mdX11_beat 74 [(0, .ref x0), (1, .int x1), (2, .int 0)] [] M20 Q) ∧
  (¬ ((mAI M2 b4 (x1 : Int32).toNatClampNeg) = 0) → Q (some (.int (-2))) M2)) ∧
  (r3 = 0 → Q (some (.int (-1))) M2))
set_option maxRecDepth 20000 in
set_option maxHeartbeats 2000000 in
theorem VX11_beat_0 {h : Nat} {x0 : Nat} {x1 : Int32} {M : Mem} {Q : Option Value → Mem → Prop} (H : DX11_beat_0 h x0 x1 M Q) : T (h + 1) mdX11_beat 0 [(0, .ref x0), (1, .int x1)] [] M Q := by
  unfold DX11_beat_0 at H
  refine xt_aload_n (j := 0) dX11_beat_0 rfl rfl ?_
  refine xt_iload_n (j := 1) dX11_beat_1 rfl rfl ?_
  obtain ⟨ho1, H⟩ := H
  refine xt_callV (h2 := h) (as := [.int x1]) (st := []) dX11_beat_2 (mlX11_795 rfl) rfl ho1.1 ⟨by rw [ho1.2]; rfl, by rw [ho1.2]; decide⟩ (by first | decide | (simp [Value.category]; done)) (Nat.le_refl _) H (fun r M2 HH hE => ?_)
  obtain ⟨r3, hr, H⟩ := HH hE
  subst hr
  have ho1 := ok_E ho1 hE
  show T _ _ _ _ [.int r3] _ _
  refine xt_if_ne (tgt := 10) dX11_beat_5 (by decide) (fun hc => ?_) (fun hc => ?_)
  · have H := H.1 hc
    refine xt_aload_n (j := 0) dX11_beat_10 rfl rfl ?_
    obtain ⟨b4, hb, H⟩ := H
    refine xt_getR dX11_beat_11 (flX11_234 rfl) ft_13_94 ho1.1 ho1.2 hb ?_
    refine xt_iload_n (j := 1) dX11_beat_14 rfl rfl ?_
    obtain ⟨ho5, H⟩ := H
    obtain ⟨hi, H⟩ := H
    refine xt_zald dX11_beat_15 ho5.1 ho5.2 hi ?_
    refine xt_if_eq (tgt := 22) dX11_beat_16 (by decide) (fun hc => ?_) (fun hc => ?_)
    · have H := H.1 hc
      refine xt_aload_n (j := 0) dX11_beat_22 rfl rfl ?_
      refine xt_aload_n (j := 0) dX11_beat_23 rfl rfl ?_
      obtain ⟨b6, hb, H⟩ := H
      refine xt_getR dX11_beat_24 (flX11_228 rfl) ft_13_92 ho1.1 ho1.2 hb ?_
      refine xt_iload_n (j := 1) dX11_beat_27 rfl rfl ?_
      obtain ⟨ho7, H⟩ := H
      obtain ⟨hi, H⟩ := H
      refine xt_iald dX11_beat_28 ho7.1 ho7.2 hi ?_
      obtain ⟨M8, eM8⟩ : ∃ z, z = wI M2 x0 84 (mAI M2 b6 (x1 : Int32).toNatClampNeg) := ⟨_, rfl⟩
      have H := H _ eM8
      refine xt_putI dX11_beat_29 (flX11_742 rfl) ty_13_84 rfl ho1.1 ho1.2 ?_
      have ho1 : ok M8 x0 13 := by rw [eM8]; exact ho1
      rw [← eM8]
      refine xt_aload_n (j := 0) dX11_beat_32 rfl rfl ?_
      refine xt_aload_n (j := 0) dX11_beat_33 rfl rfl ?_
      obtain ⟨b9, hb, H⟩ := H
      refine xt_getR dX11_beat_34 (flX11_237 rfl) ft_13_95 ho1.1 ho1.2 hb ?_
      refine xt_iload_n (j := 1) dX11_beat_37 rfl rfl ?_
      obtain ⟨ho10, H⟩ := H
      obtain ⟨hi, H⟩ := H
      refine xt_iald dX11_beat_38 ho10.1 ho10.2 hi ?_
      obtain ⟨M11, eM11⟩ : ∃ z, z = wI M8 x0 85 (mAI M8 b9 (x1 : Int32).toNatClampNeg) := ⟨_, rfl⟩
      have H := H _ eM11
      refine xt_putI dX11_beat_39 (flX11_764 rfl) ty_13_85 rfl ho1.1 ho1.2 ?_
      have ho1 : ok M11 x0 13 := by rw [eM11]; exact ho1
      rw [← eM11]
      refine xt_aload_n (j := 0) dX11_beat_42 rfl rfl ?_
      refine xt_aload_n (j := 0) dX11_beat_43 rfl rfl ?_
      obtain ⟨b12, hb, H⟩ := H
      refine xt_getR dX11_beat_44 (flX11_240 rfl) ft_13_96 ho1.1 ho1.2 hb ?_
      refine xt_iload_n (j := 1) dX11_beat_47 rfl rfl ?_
      obtain ⟨ho13, H⟩ := H
      obtain ⟨hi, H⟩ := H
      refine xt_iald dX11_beat_48 ho13.1 ho13.2 hi ?_
      obtain ⟨M14, eM14⟩ : ∃ z, z = wI M11 x0 86 (mAI M11 b12 (x1 : Int32).toNatClampNeg) := ⟨_, rfl⟩
      have H := H _ eM14
      refine xt_putI dX11_beat_49 (flX11_730 rfl) ty_13_86 rfl ho1.1 ho1.2 ?_
      have ho1 : ok M14 x0 13 := by rw [eM14]; exact ho1
      rw [← eM14]
      refine xt_aload_n (j := 0) dX11_beat_52 rfl rfl ?_
      refine xt_aload_n (j := 0) dX11_beat_53 rfl rfl ?_
      obtain ⟨b15, hb, H⟩ := H
      refine xt_getR dX11_beat_54 (flX11_255 rfl) ft_13_101 ho1.1 ho1.2 hb ?_
      refine xt_iload_n (j := 1) dX11_beat_57 rfl rfl ?_
      obtain ⟨ho16, H⟩ := H
      obtain ⟨hi, H⟩ := H
      refine xt_iald dX11_beat_58 ho16.1 ho16.2 hi ?_
      obtain ⟨M17, eM17⟩ : ∃ z, z = wI M14 x0 87 (mAI M14 b15 (x1 : Int32).toNatClampNeg) := ⟨_, rfl⟩
      have H := H _ eM17
      refine xt_putI dX11_beat_59 (flX11_777 rfl) ty_13_87 rfl ho1.1 ho1.2 ?_
      have ho1 : ok M17 x0 13 := by rw [eM17]; exact ho1
      rw [← eM17]
      refine xt_aload_n (j := 0) dX11_beat_62 rfl rfl ?_
      refine xt_aload_n (j := 0) dX11_beat_63 rfl rfl ?_
      obtain ⟨b18, hb, H⟩ := H
      refine xt_getR dX11_beat_64 (flX11_231 rfl) ft_13_93 ho1.1 ho1.2 hb ?_
      refine xt_iload_n (j := 1) dX11_beat_67 rfl rfl ?_
      obtain ⟨ho19, H⟩ := H
      obtain ⟨hi, H⟩ := H
      refine xt_zald dX11_beat_68 ho19.1 ho19.2 hi ?_
      obtain ⟨hz, H⟩ := H
      obtain ⟨M20, eM20⟩ : ∃ z, z = wI M17 x0 89 (mAI M17 b18 (x1 : Int32).toNatClampNeg) := ⟨_, rfl⟩
      have H := H _ eM20
      refine xt_putZ dX11_beat_69 (flX11_752 rfl) ty_13_89 rfl ho1.1 ho1.2 hz ?_
      have ho1 : ok M20 x0 13 := by rw [eM20]; exact ho1
      rw [← eM20]
      refine xt_iconst (v := 0) dX11_beat_72 (by decide) ?_
      refine xt_istore_n (lv' := [(2, .int 0), (0, .ref x0), (1, .int x1)]) dX11_beat_73 rfl (by decide) rfl ?_
      exact xt_sub (lv' := [(0, .ref x0), (1, .int x1), (2, .int 0)]) [1, 2, 0] rfl H
    · have H := H.2 hc
      refine xt_bipush (v := -2) dX11_beat_19 (by decide) ?_
      exact xt_ireturn dX11_beat_21 rfl H
  · have H := H.2 hc
    refine xt_iconst (v := -1) dX11_beat_8 (by decide) ?_
    exact xt_ireturn dX11_beat_9 rfl H
theorem KX11_beat {h : Nat} {x0 : Nat} {x1 : Int32} {M : Mem} {Q : Option Value → Mem → Prop} (H : DX11_beat_0 h x0 x1 M Q) : E (h + 1) mdX11_beat [.ref x0, .int x1] M Q := E.of (by decide) (Nat.le_of_ble_eq_true rfl) (fun _ _ _ => trivial) (VX11_beat_0 H)
def DX11_present_45 (h : Nat) (s0 : Int32) (M : Mem) (Q : Option Value → Mem → Prop) : Prop :=
  Q (some (.int s0)) M
set_option maxRecDepth 20000 in
set_option maxHeartbeats 2000000 in
theorem VX11_present_45 {h : Nat} {s0 : Int32} {M : Mem} {Q : Option Value → Mem → Prop} (H : DX11_present_45 h s0 M Q) : T (h + 1) mdX11_present 45 [] [.int s0] M Q := by
  unfold DX11_present_45 at H
  exact xt_ireturn dX11_present_45 rfl H
def DX11_present_44 (h : Nat) (M : Mem) (Q : Option Value → Mem → Prop) : Prop :=
  DX11_present_45 h (-1) M Q
set_option maxRecDepth 20000 in
set_option maxHeartbeats 2000000 in
theorem VX11_present_44 {h : Nat} {M : Mem} {Q : Option Value → Mem → Prop} (H : DX11_present_44 h  M Q) : T (h + 1) mdX11_present 44 [] [] M Q := by
  unfold DX11_present_44 at H
  refine xt_iconst (v := -1) dX11_present_44 (by decide) ?_
  exact xt_sub [] rfl (VX11_present_45 H)
def DX11_present_0 (h : Nat) (x0 : Nat) (x1 : Int32) (x2 : Int32) (M : Mem) (Q : Option Value → Mem → Prop) : Prop :=
  ok M x0 13 ∧ E h mdX11_isGovernor [.ref x0, .int x1] M (fun r M2 => mE M M2 → ∃ r3 : Int32, r = some (.int r3) ∧ (r3 = 0 → DX11_present_44 h  M2 Q) ∧
  (¬ (r3 = 0) → ∃ b4 : Nat, mR M2 x0 8 = some b4 ∧ ∃ b5 : Nat, mR M2 x0 92 = some b5 ∧ ok M2 b5 21 ∧ vp_in x1 (mL M2 b5) ∧ ok M2 b4 21 ∧ vp_in (mAI M2 b5 (x1 : Int32).toNatClampNeg) (mL M2 b4) ∧ E h mdX11_in [.long ((x2 : Int32).toInt64), .long 0, .long (((mAI M2 b4 (mAI M2 b5 (x1 : Int32).toNatClampNeg : Int32).toNatClampNeg) - 1 : Int32).toInt64)] M2 (fun r M8 => mE M2 M8 → ∃ r9 : Int32, r = some (.int r9) ∧ (r9 = 0 → DX11_present_44 h  M8 Q) ∧
  (¬ (r9 = 0) → ∃ b10 : Nat, mR M8 x0 106 = some b10 ∧ ok M8 b10 21 ∧ vp_in x1 (mL M8 b10) ∧ DX11_present_45 h (((mAI M8 b10 (x1 : Int32).toNatClampNeg) >>> (x2 &&& 31)) &&& 1) M8 Q))))
set_option maxRecDepth 20000 in
set_option maxHeartbeats 2000000 in
theorem VX11_present_0 {h : Nat} {x0 : Nat} {x1 : Int32} {x2 : Int32} {M : Mem} {Q : Option Value → Mem → Prop} (H : DX11_present_0 h x0 x1 x2 M Q) : T (h + 1) mdX11_present 0 [(0, .ref x0), (1, .int x1), (2, .int x2)] [] M Q := by
  unfold DX11_present_0 at H
  refine xt_aload_n (j := 0) dX11_present_0 rfl rfl ?_
  refine xt_iload_n (j := 1) dX11_present_1 rfl rfl ?_
  obtain ⟨ho1, H⟩ := H
  refine xt_callV (h2 := h) (as := [.int x1]) (st := []) dX11_present_2 (mlX11_795 rfl) rfl ho1.1 ⟨by rw [ho1.2]; rfl, by rw [ho1.2]; decide⟩ (by first | decide | (simp [Value.category]; done)) (Nat.le_refl _) H (fun r M2 HH hE => ?_)
  obtain ⟨r3, hr, H⟩ := HH hE
  subst hr
  have ho1 := ok_E ho1 hE
  show T _ _ _ _ [.int r3] _ _
  refine xt_if_eq (tgt := 44) dX11_present_5 (by decide) (fun hc => ?_) (fun hc => ?_)
  · have H := H.1 hc
    exact xt_sub [] rfl (VX11_present_44 H)
  · have H := H.2 hc
    refine xt_iload_n (j := 2) dX11_present_8 rfl rfl ?_
    refine xt_i2l dX11_present_9 ?_
    refine xt_lconst (v := 0) dX11_present_10 (by decide) ?_
    refine xt_aload_n (j := 0) dX11_present_11 rfl rfl ?_
    obtain ⟨b4, hb, H⟩ := H
    refine xt_getR dX11_present_12 (flX11_23 rfl) ft_13_8 ho1.1 ho1.2 hb ?_
    refine xt_aload_n (j := 0) dX11_present_15 rfl rfl ?_
    obtain ⟨b5, hb, H⟩ := H
    refine xt_getR dX11_present_16 (flX11_228 rfl) ft_13_92 ho1.1 ho1.2 hb ?_
    refine xt_iload_n (j := 1) dX11_present_19 rfl rfl ?_
    obtain ⟨ho6, H⟩ := H
    obtain ⟨hi, H⟩ := H
    refine xt_iald dX11_present_20 ho6.1 ho6.2 hi ?_
    obtain ⟨ho7, H⟩ := H
    obtain ⟨hi, H⟩ := H
    refine xt_iald dX11_present_21 ho7.1 ho7.2 hi ?_
    refine xt_iconst (v := 1) dX11_present_22 (by decide) ?_
    refine xt_isub dX11_present_23 ?_
    refine xt_i2l dX11_present_24 ?_
    refine xt_callS (h2 := h) (as := [.long ((x2 : Int32).toInt64), .long 0, .long (((mAI M2 b4 (mAI M2 b5 (x1 : Int32).toNatClampNeg : Int32).toNatClampNeg) - 1 : Int32).toInt64)]) (st := []) dX11_present_25 (mlX11_332 rfl) rfl (by first | decide | (simp [Value.category]; done)) (Nat.le_refl _) H (fun r M8 HH hE => ?_)
    obtain ⟨r9, hr, H⟩ := HH hE
    subst hr
    have ho1 := ok_E ho1 hE
    show T _ _ _ _ [.int r9] _ _
    refine xt_if_eq (tgt := 44) dX11_present_28 (by decide) (fun hc => ?_) (fun hc => ?_)
    · have H := H.1 hc
      exact xt_sub [] rfl (VX11_present_44 H)
    · have H := H.2 hc
      refine xt_aload_n (j := 0) dX11_present_31 rfl rfl ?_
      obtain ⟨b10, hb, H⟩ := H
      refine xt_getR dX11_present_32 (flX11_270 rfl) ft_13_106 ho1.1 ho1.2 hb ?_
      refine xt_iload_n (j := 1) dX11_present_35 rfl rfl ?_
      obtain ⟨ho11, H⟩ := H
      obtain ⟨hi, H⟩ := H
      refine xt_iald dX11_present_36 ho11.1 ho11.2 hi ?_
      refine xt_iload_n (j := 2) dX11_present_37 rfl rfl ?_
      refine xt_ishr dX11_present_38 ?_
      refine xt_iconst (v := 1) dX11_present_39 (by decide) ?_
      refine xt_iand dX11_present_40 ?_
      refine xt_goto (tgt := 45) dX11_present_41 (by decide) ?_
      exact xt_sub [] rfl (VX11_present_45 H)
theorem KX11_present {h : Nat} {x0 : Nat} {x1 : Int32} {x2 : Int32} {M : Mem} {Q : Option Value → Mem → Prop} (H : DX11_present_0 h x0 x1 x2 M Q) : E (h + 1) mdX11_present [.ref x0, .int x1, .int x2] M Q := E.of (by decide) (Nat.le_of_ble_eq_true rfl) (fun _ _ _ => trivial) (VX11_present_0 H)
def DX11_value_47 (h : Nat) (s0 : Int32) (M : Mem) (Q : Option Value → Mem → Prop) : Prop :=
  Q (some (.int s0)) M
set_option maxRecDepth 20000 in
set_option maxHeartbeats 2000000 in
theorem VX11_value_47 {h : Nat} {s0 : Int32} {M : Mem} {Q : Option Value → Mem → Prop} (H : DX11_value_47 h s0 M Q) : T (h + 1) mdX11_value 47 [] [.int s0] M Q := by
  unfold DX11_value_47 at H
  exact xt_ireturn dX11_value_47 rfl H
def DX11_value_46 (h : Nat) (M : Mem) (Q : Option Value → Mem → Prop) : Prop :=
  DX11_value_47 h 0 M Q
set_option maxRecDepth 20000 in
set_option maxHeartbeats 2000000 in
theorem VX11_value_46 {h : Nat} {M : Mem} {Q : Option Value → Mem → Prop} (H : DX11_value_46 h  M Q) : T (h + 1) mdX11_value 46 [] [] M Q := by
  unfold DX11_value_46 at H
  refine xt_iconst (v := 0) dX11_value_46 (by decide) ?_
  exact xt_sub [] rfl (VX11_value_47 H)
def DX11_value_0 (h : Nat) (x0 : Nat) (x1 : Int32) (x2 : Int32) (M : Mem) (Q : Option Value → Mem → Prop) : Prop :=
  ok M x0 13 ∧ E h mdX11_isGovernor [.ref x0, .int x1] M (fun r M2 => mE M M2 → ∃ r3 : Int32, r = some (.int r3) ∧ (r3 = 0 → DX11_value_46 h  M2 Q) ∧
  (¬ (r3 = 0) → ∃ b4 : Nat, mR M2 x0 8 = some b4 ∧ ∃ b5 : Nat, mR M2 x0 92 = some b5 ∧ ok M2 b5 21 ∧ vp_in x1 (mL M2 b5) ∧ ok M2 b4 21 ∧ vp_in (mAI M2 b5 (x1 : Int32).toNatClampNeg) (mL M2 b4) ∧ E h mdX11_in [.long ((x2 : Int32).toInt64), .long 0, .long (((mAI M2 b4 (mAI M2 b5 (x1 : Int32).toNatClampNeg : Int32).toNatClampNeg) - 1 : Int32).toInt64)] M2 (fun r M8 => mE M2 M8 → ∃ r9 : Int32, r = some (.int r9) ∧ (r9 = 0 → DX11_value_46 h  M8 Q) ∧
  (¬ (r9 = 0) → ∃ b10 : Nat, mR M8 x0 97 = some b10 ∧ ok M8 b10 23 ∧ vp_in ((16 * x1) + x2) (mL M8 b10) ∧ DX11_value_47 h ((mAJ M8 b10 ((16 * x1) + x2 : Int32).toNatClampNeg : Int64).toInt32) M8 Q))))
set_option maxRecDepth 20000 in
set_option maxHeartbeats 2000000 in
theorem VX11_value_0 {h : Nat} {x0 : Nat} {x1 : Int32} {x2 : Int32} {M : Mem} {Q : Option Value → Mem → Prop} (H : DX11_value_0 h x0 x1 x2 M Q) : T (h + 1) mdX11_value 0 [(0, .ref x0), (1, .int x1), (2, .int x2)] [] M Q := by
  unfold DX11_value_0 at H
  refine xt_aload_n (j := 0) dX11_value_0 rfl rfl ?_
  refine xt_iload_n (j := 1) dX11_value_1 rfl rfl ?_
  obtain ⟨ho1, H⟩ := H
  refine xt_callV (h2 := h) (as := [.int x1]) (st := []) dX11_value_2 (mlX11_795 rfl) rfl ho1.1 ⟨by rw [ho1.2]; rfl, by rw [ho1.2]; decide⟩ (by first | decide | (simp [Value.category]; done)) (Nat.le_refl _) H (fun r M2 HH hE => ?_)
  obtain ⟨r3, hr, H⟩ := HH hE
  subst hr
  have ho1 := ok_E ho1 hE
  show T _ _ _ _ [.int r3] _ _
  refine xt_if_eq (tgt := 46) dX11_value_5 (by decide) (fun hc => ?_) (fun hc => ?_)
  · have H := H.1 hc
    exact xt_sub [] rfl (VX11_value_46 H)
  · have H := H.2 hc
    refine xt_iload_n (j := 2) dX11_value_8 rfl rfl ?_
    refine xt_i2l dX11_value_9 ?_
    refine xt_lconst (v := 0) dX11_value_10 (by decide) ?_
    refine xt_aload_n (j := 0) dX11_value_11 rfl rfl ?_
    obtain ⟨b4, hb, H⟩ := H
    refine xt_getR dX11_value_12 (flX11_23 rfl) ft_13_8 ho1.1 ho1.2 hb ?_
    refine xt_aload_n (j := 0) dX11_value_15 rfl rfl ?_
    obtain ⟨b5, hb, H⟩ := H
    refine xt_getR dX11_value_16 (flX11_228 rfl) ft_13_92 ho1.1 ho1.2 hb ?_
    refine xt_iload_n (j := 1) dX11_value_19 rfl rfl ?_
    obtain ⟨ho6, H⟩ := H
    obtain ⟨hi, H⟩ := H
    refine xt_iald dX11_value_20 ho6.1 ho6.2 hi ?_
    obtain ⟨ho7, H⟩ := H
    obtain ⟨hi, H⟩ := H
    refine xt_iald dX11_value_21 ho7.1 ho7.2 hi ?_
    refine xt_iconst (v := 1) dX11_value_22 (by decide) ?_
    refine xt_isub dX11_value_23 ?_
    refine xt_i2l dX11_value_24 ?_
    refine xt_callS (h2 := h) (as := [.long ((x2 : Int32).toInt64), .long 0, .long (((mAI M2 b4 (mAI M2 b5 (x1 : Int32).toNatClampNeg : Int32).toNatClampNeg) - 1 : Int32).toInt64)]) (st := []) dX11_value_25 (mlX11_332 rfl) rfl (by first | decide | (simp [Value.category]; done)) (Nat.le_refl _) H (fun r M8 HH hE => ?_)
    obtain ⟨r9, hr, H⟩ := HH hE
    subst hr
    have ho1 := ok_E ho1 hE
    show T _ _ _ _ [.int r9] _ _
    refine xt_if_eq (tgt := 46) dX11_value_28 (by decide) (fun hc => ?_) (fun hc => ?_)
    · have H := H.1 hc
      exact xt_sub [] rfl (VX11_value_46 H)
    · have H := H.2 hc
      refine xt_aload_n (j := 0) dX11_value_31 rfl rfl ?_
      obtain ⟨b10, hb, H⟩ := H
      refine xt_getR dX11_value_32 (flX11_243 rfl) ft_13_97 ho1.1 ho1.2 hb ?_
      refine xt_bipush (v := 16) dX11_value_35 (by decide) ?_
      refine xt_iload_n (j := 1) dX11_value_37 rfl rfl ?_
      refine xt_imul dX11_value_38 ?_
      refine xt_iload_n (j := 2) dX11_value_39 rfl rfl ?_
      refine xt_iadd dX11_value_40 ?_
      obtain ⟨ho11, H⟩ := H
      obtain ⟨hi, H⟩ := H
      refine xt_lald dX11_value_41 ho11.1 ho11.2 hi ?_
      refine xt_l2i dX11_value_42 ?_
      refine xt_goto (tgt := 47) dX11_value_43 (by decide) ?_
      exact xt_sub [] rfl (VX11_value_47 H)
theorem KX11_value {h : Nat} {x0 : Nat} {x1 : Int32} {x2 : Int32} {M : Mem} {Q : Option Value → Mem → Prop} (H : DX11_value_0 h x0 x1 x2 M Q) : E (h + 1) mdX11_value [.ref x0, .int x1, .int x2] M Q := E.of (by decide) (Nat.le_of_ble_eq_true rfl) (fun _ _ _ => trivial) (VX11_value_0 H)
def DX11_variable_47 (h : Nat) (s0 : Int32) (M : Mem) (Q : Option Value → Mem → Prop) : Prop :=
  Q (some (.int s0)) M
set_option maxRecDepth 20000 in
set_option maxHeartbeats 2000000 in
theorem VX11_variable_47 {h : Nat} {s0 : Int32} {M : Mem} {Q : Option Value → Mem → Prop} (H : DX11_variable_47 h s0 M Q) : T (h + 1) mdX11_variable 47 [] [.int s0] M Q := by
  unfold DX11_variable_47 at H
  exact xt_ireturn dX11_variable_47 rfl H
def DX11_variable_46 (h : Nat) (M : Mem) (Q : Option Value → Mem → Prop) : Prop :=
  DX11_variable_47 h 0 M Q
set_option maxRecDepth 20000 in
set_option maxHeartbeats 2000000 in
theorem VX11_variable_46 {h : Nat} {M : Mem} {Q : Option Value → Mem → Prop} (H : DX11_variable_46 h  M Q) : T (h + 1) mdX11_variable 46 [] [] M Q := by
  unfold DX11_variable_46 at H
  refine xt_iconst (v := 0) dX11_variable_46 (by decide) ?_
  exact xt_sub [] rfl (VX11_variable_47 H)
def DX11_variable_0 (h : Nat) (x0 : Nat) (x1 : Int32) (x2 : Int32) (M : Mem) (Q : Option Value → Mem → Prop) : Prop :=
  ok M x0 13 ∧ E h mdX11_isGovernor [.ref x0, .int x1] M (fun r M2 => mE M M2 → ∃ r3 : Int32, r = some (.int r3) ∧ (r3 = 0 → DX11_variable_46 h  M2 Q) ∧
  (¬ (r3 = 0) → ∃ b4 : Nat, mR M2 x0 10 = some b4 ∧ ∃ b5 : Nat, mR M2 x0 92 = some b5 ∧ ok M2 b5 21 ∧ vp_in x1 (mL M2 b5) ∧ ok M2 b4 21 ∧ vp_in (mAI M2 b5 (x1 : Int32).toNatClampNeg) (mL M2 b4) ∧ E h mdX11_in [.long ((x2 : Int32).toInt64), .long 0, .long (((mAI M2 b4 (mAI M2 b5 (x1 : Int32).toNatClampNeg : Int32).toNatClampNeg) - 1 : Int32).toInt64)] M2 (fun r M8 => mE M2 M8 → ∃ r9 : Int32, r = some (.int r9) ∧ (r9 = 0 → DX11_variable_46 h  M8 Q) ∧
  (¬ (r9 = 0) → ∃ b10 : Nat, mR M8 x0 98 = some b10 ∧ ok M8 b10 23 ∧ vp_in ((6 * x1) + x2) (mL M8 b10) ∧ DX11_variable_47 h ((mAJ M8 b10 ((6 * x1) + x2 : Int32).toNatClampNeg : Int64).toInt32) M8 Q))))
set_option maxRecDepth 20000 in
set_option maxHeartbeats 2000000 in
theorem VX11_variable_0 {h : Nat} {x0 : Nat} {x1 : Int32} {x2 : Int32} {M : Mem} {Q : Option Value → Mem → Prop} (H : DX11_variable_0 h x0 x1 x2 M Q) : T (h + 1) mdX11_variable 0 [(0, .ref x0), (1, .int x1), (2, .int x2)] [] M Q := by
  unfold DX11_variable_0 at H
  refine xt_aload_n (j := 0) dX11_variable_0 rfl rfl ?_
  refine xt_iload_n (j := 1) dX11_variable_1 rfl rfl ?_
  obtain ⟨ho1, H⟩ := H
  refine xt_callV (h2 := h) (as := [.int x1]) (st := []) dX11_variable_2 (mlX11_795 rfl) rfl ho1.1 ⟨by rw [ho1.2]; rfl, by rw [ho1.2]; decide⟩ (by first | decide | (simp [Value.category]; done)) (Nat.le_refl _) H (fun r M2 HH hE => ?_)
  obtain ⟨r3, hr, H⟩ := HH hE
  subst hr
  have ho1 := ok_E ho1 hE
  show T _ _ _ _ [.int r3] _ _
  refine xt_if_eq (tgt := 46) dX11_variable_5 (by decide) (fun hc => ?_) (fun hc => ?_)
  · have H := H.1 hc
    exact xt_sub [] rfl (VX11_variable_46 H)
  · have H := H.2 hc
    refine xt_iload_n (j := 2) dX11_variable_8 rfl rfl ?_
    refine xt_i2l dX11_variable_9 ?_
    refine xt_lconst (v := 0) dX11_variable_10 (by decide) ?_
    refine xt_aload_n (j := 0) dX11_variable_11 rfl rfl ?_
    obtain ⟨b4, hb, H⟩ := H
    refine xt_getR dX11_variable_12 (flX11_29 rfl) ft_13_10 ho1.1 ho1.2 hb ?_
    refine xt_aload_n (j := 0) dX11_variable_15 rfl rfl ?_
    obtain ⟨b5, hb, H⟩ := H
    refine xt_getR dX11_variable_16 (flX11_228 rfl) ft_13_92 ho1.1 ho1.2 hb ?_
    refine xt_iload_n (j := 1) dX11_variable_19 rfl rfl ?_
    obtain ⟨ho6, H⟩ := H
    obtain ⟨hi, H⟩ := H
    refine xt_iald dX11_variable_20 ho6.1 ho6.2 hi ?_
    obtain ⟨ho7, H⟩ := H
    obtain ⟨hi, H⟩ := H
    refine xt_iald dX11_variable_21 ho7.1 ho7.2 hi ?_
    refine xt_iconst (v := 1) dX11_variable_22 (by decide) ?_
    refine xt_isub dX11_variable_23 ?_
    refine xt_i2l dX11_variable_24 ?_
    refine xt_callS (h2 := h) (as := [.long ((x2 : Int32).toInt64), .long 0, .long (((mAI M2 b4 (mAI M2 b5 (x1 : Int32).toNatClampNeg : Int32).toNatClampNeg) - 1 : Int32).toInt64)]) (st := []) dX11_variable_25 (mlX11_332 rfl) rfl (by first | decide | (simp [Value.category]; done)) (Nat.le_refl _) H (fun r M8 HH hE => ?_)
    obtain ⟨r9, hr, H⟩ := HH hE
    subst hr
    have ho1 := ok_E ho1 hE
    show T _ _ _ _ [.int r9] _ _
    refine xt_if_eq (tgt := 46) dX11_variable_28 (by decide) (fun hc => ?_) (fun hc => ?_)
    · have H := H.1 hc
      exact xt_sub [] rfl (VX11_variable_46 H)
    · have H := H.2 hc
      refine xt_aload_n (j := 0) dX11_variable_31 rfl rfl ?_
      obtain ⟨b10, hb, H⟩ := H
      refine xt_getR dX11_variable_32 (flX11_246 rfl) ft_13_98 ho1.1 ho1.2 hb ?_
      refine xt_bipush (v := 6) dX11_variable_35 (by decide) ?_
      refine xt_iload_n (j := 1) dX11_variable_37 rfl rfl ?_
      refine xt_imul dX11_variable_38 ?_
      refine xt_iload_n (j := 2) dX11_variable_39 rfl rfl ?_
      refine xt_iadd dX11_variable_40 ?_
      obtain ⟨ho11, H⟩ := H
      obtain ⟨hi, H⟩ := H
      refine xt_lald dX11_variable_41 ho11.1 ho11.2 hi ?_
      refine xt_l2i dX11_variable_42 ?_
      refine xt_goto (tgt := 47) dX11_variable_43 (by decide) ?_
      exact xt_sub [] rfl (VX11_variable_47 H)
theorem KX11_variable {h : Nat} {x0 : Nat} {x1 : Int32} {x2 : Int32} {M : Mem} {Q : Option Value → Mem → Prop} (H : DX11_variable_0 h x0 x1 x2 M Q) : E (h + 1) mdX11_variable [.ref x0, .int x1, .int x2] M Q := E.of (by decide) (Nat.le_of_ble_eq_true rfl) (fun _ _ _ => trivial) (VX11_variable_0 H)
def DX11_wire_63 (h : Nat) (s0 : Int32) (M : Mem) (Q : Option Value → Mem → Prop) : Prop :=
  Q (some (.int s0)) M
set_option maxRecDepth 20000 in
set_option maxHeartbeats 2000000 in
theorem VX11_wire_63 {h : Nat} {s0 : Int32} {M : Mem} {Q : Option Value → Mem → Prop} (H : DX11_wire_63 h s0 M Q) : T (h + 1) mdX11_wire 63 [] [.int s0] M Q := by
  unfold DX11_wire_63 at H
  exact xt_ireturn dX11_wire_63 rfl H
def DX11_wire_62 (h : Nat) (M : Mem) (Q : Option Value → Mem → Prop) : Prop :=
  DX11_wire_63 h (-1) M Q
set_option maxRecDepth 20000 in
set_option maxHeartbeats 2000000 in
theorem VX11_wire_62 {h : Nat} {M : Mem} {Q : Option Value → Mem → Prop} (H : DX11_wire_62 h  M Q) : T (h + 1) mdX11_wire 62 [] [] M Q := by
  unfold DX11_wire_62 at H
  refine xt_iconst (v := -1) dX11_wire_62 (by decide) ?_
  exact xt_sub [] rfl (VX11_wire_63 H)
def DX11_wire_0 (h : Nat) (x0 : Nat) (x1 : Int32) (x2 : Int32) (x3 : Int32) (M : Mem) (Q : Option Value → Mem → Prop) : Prop :=
  ok M x0 13 ∧ E h mdX11_isGovernor [.ref x0, .int x1] M (fun r M2 => mE M M2 → ∃ r3 : Int32, r = some (.int r3) ∧ (r3 = 0 → DX11_wire_62 h  M2 Q) ∧
  (¬ (r3 = 0) → ∃ b4 : Nat, mR M2 x0 34 = some b4 ∧ ∃ b5 : Nat, mR M2 x0 92 = some b5 ∧ ok M2 b5 21 ∧ vp_in x1 (mL M2 b5) ∧ ok M2 b4 21 ∧ vp_in (mAI M2 b5 (x1 : Int32).toNatClampNeg) (mL M2 b4) ∧ E h mdX11_in [.long ((x2 : Int32).toInt64), .long 0, .long (((mAI M2 b4 (mAI M2 b5 (x1 : Int32).toNatClampNeg : Int32).toNatClampNeg) - 1 : Int32).toInt64)] M2 (fun r M8 => mE M2 M8 → ∃ r9 : Int32, r = some (.int r9) ∧ (r9 = 0 → DX11_wire_62 h  M8 Q) ∧
  (¬ (r9 = 0) → E h mdX11_in [.long ((x3 : Int32).toInt64), .long 0, .long 4] M8 (fun r M10 => mE M8 M10 → ∃ r11 : Int32, r = some (.int r11) ∧ (r11 = 0 → DX11_wire_62 h  M10 Q) ∧
  (¬ (r11 = 0) → ∃ b12 : Nat, mR M10 x0 107 = some b12 ∧ ok M10 b12 21 ∧ vp_in (((200 * x1) + (5 * x2)) + x3) (mL M10 b12) ∧ DX11_wire_63 h (mAI M10 b12 (((200 * x1) + (5 * x2)) + x3 : Int32).toNatClampNeg) M10 Q))))))
set_option maxRecDepth 20000 in
set_option maxHeartbeats 2000000 in
theorem VX11_wire_0 {h : Nat} {x0 : Nat} {x1 : Int32} {x2 : Int32} {x3 : Int32} {M : Mem} {Q : Option Value → Mem → Prop} (H : DX11_wire_0 h x0 x1 x2 x3 M Q) : T (h + 1) mdX11_wire 0 [(0, .ref x0), (1, .int x1), (2, .int x2), (3, .int x3)] [] M Q := by
  unfold DX11_wire_0 at H
  refine xt_aload_n (j := 0) dX11_wire_0 rfl rfl ?_
  refine xt_iload_n (j := 1) dX11_wire_1 rfl rfl ?_
  obtain ⟨ho1, H⟩ := H
  refine xt_callV (h2 := h) (as := [.int x1]) (st := []) dX11_wire_2 (mlX11_795 rfl) rfl ho1.1 ⟨by rw [ho1.2]; rfl, by rw [ho1.2]; decide⟩ (by first | decide | (simp [Value.category]; done)) (Nat.le_refl _) H (fun r M2 HH hE => ?_)
  obtain ⟨r3, hr, H⟩ := HH hE
  subst hr
  have ho1 := ok_E ho1 hE
  show T _ _ _ _ [.int r3] _ _
  refine xt_if_eq (tgt := 62) dX11_wire_5 (by decide) (fun hc => ?_) (fun hc => ?_)
  · have H := H.1 hc
    exact xt_sub [] rfl (VX11_wire_62 H)
  · have H := H.2 hc
    refine xt_iload_n (j := 2) dX11_wire_8 rfl rfl ?_
    refine xt_i2l dX11_wire_9 ?_
    refine xt_lconst (v := 0) dX11_wire_10 (by decide) ?_
    refine xt_aload_n (j := 0) dX11_wire_11 rfl rfl ?_
    obtain ⟨b4, hb, H⟩ := H
    refine xt_getR dX11_wire_12 (flX11_84 rfl) ft_13_34 ho1.1 ho1.2 hb ?_
    refine xt_aload_n (j := 0) dX11_wire_15 rfl rfl ?_
    obtain ⟨b5, hb, H⟩ := H
    refine xt_getR dX11_wire_16 (flX11_228 rfl) ft_13_92 ho1.1 ho1.2 hb ?_
    refine xt_iload_n (j := 1) dX11_wire_19 rfl rfl ?_
    obtain ⟨ho6, H⟩ := H
    obtain ⟨hi, H⟩ := H
    refine xt_iald dX11_wire_20 ho6.1 ho6.2 hi ?_
    obtain ⟨ho7, H⟩ := H
    obtain ⟨hi, H⟩ := H
    refine xt_iald dX11_wire_21 ho7.1 ho7.2 hi ?_
    refine xt_iconst (v := 1) dX11_wire_22 (by decide) ?_
    refine xt_isub dX11_wire_23 ?_
    refine xt_i2l dX11_wire_24 ?_
    refine xt_callS (h2 := h) (as := [.long ((x2 : Int32).toInt64), .long 0, .long (((mAI M2 b4 (mAI M2 b5 (x1 : Int32).toNatClampNeg : Int32).toNatClampNeg) - 1 : Int32).toInt64)]) (st := []) dX11_wire_25 (mlX11_332 rfl) rfl (by first | decide | (simp [Value.category]; done)) (Nat.le_refl _) H (fun r M8 HH hE => ?_)
    obtain ⟨r9, hr, H⟩ := HH hE
    subst hr
    have ho1 := ok_E ho1 hE
    show T _ _ _ _ [.int r9] _ _
    refine xt_if_eq (tgt := 62) dX11_wire_28 (by decide) (fun hc => ?_) (fun hc => ?_)
    · have H := H.1 hc
      exact xt_sub [] rfl (VX11_wire_62 H)
    · have H := H.2 hc
      refine xt_iload_n (j := 3) dX11_wire_31 rfl rfl ?_
      refine xt_i2l dX11_wire_32 ?_
      refine xt_lconst (v := 0) dX11_wire_33 (by decide) ?_
      refine xt_ldc2 (v := 4) dX11_wire_34 (ctX11_841 rfl) ?_
      refine xt_callS (h2 := h) (as := [.long ((x3 : Int32).toInt64), .long 0, .long 4]) (st := []) dX11_wire_37 (mlX11_332 rfl) rfl (by first | decide | (simp [Value.category]; done)) (Nat.le_refl _) H (fun r M10 HH hE => ?_)
      obtain ⟨r11, hr, H⟩ := HH hE
      subst hr
      have ho1 := ok_E ho1 hE
      show T _ _ _ _ [.int r11] _ _
      refine xt_if_eq (tgt := 62) dX11_wire_40 (by decide) (fun hc => ?_) (fun hc => ?_)
      · have H := H.1 hc
        exact xt_sub [] rfl (VX11_wire_62 H)
      · have H := H.2 hc
        refine xt_aload_n (j := 0) dX11_wire_43 rfl rfl ?_
        obtain ⟨b12, hb, H⟩ := H
        refine xt_getR dX11_wire_44 (flX11_273 rfl) ft_13_107 ho1.1 ho1.2 hb ?_
        refine xt_sipush (v := 200) dX11_wire_47 (by decide) ?_
        refine xt_iload_n (j := 1) dX11_wire_50 rfl rfl ?_
        refine xt_imul dX11_wire_51 ?_
        refine xt_iconst (v := 5) dX11_wire_52 (by decide) ?_
        refine xt_iload_n (j := 2) dX11_wire_53 rfl rfl ?_
        refine xt_imul dX11_wire_54 ?_
        refine xt_iadd dX11_wire_55 ?_
        refine xt_iload_n (j := 3) dX11_wire_56 rfl rfl ?_
        refine xt_iadd dX11_wire_57 ?_
        obtain ⟨ho13, H⟩ := H
        obtain ⟨hi, H⟩ := H
        refine xt_iald dX11_wire_58 ho13.1 ho13.2 hi ?_
        refine xt_goto (tgt := 63) dX11_wire_59 (by decide) ?_
        exact xt_sub [] rfl (VX11_wire_63 H)
theorem KX11_wire {h : Nat} {x0 : Nat} {x1 : Int32} {x2 : Int32} {x3 : Int32} {M : Mem} {Q : Option Value → Mem → Prop} (H : DX11_wire_0 h x0 x1 x2 x3 M Q) : E (h + 1) mdX11_wire [.ref x0, .int x1, .int x2, .int x3] M Q := E.of (by decide) (Nat.le_of_ble_eq_true rfl) (fun _ _ _ => trivial) (VX11_wire_0 H)
def DX11_bits_4 (h : Nat) (x0 : Int32) (x1 : Int32) (x2 : Int32) (M : Mem) (Q : Option Value → Mem → Prop) : Prop :=
  (31 ≤ x2 → Q (some (.int x1)) M) ∧
  (¬ (31 ≤ x2) → T (h + 1) mdX11_bits 4 [(0, .int x0), (1, .int (x1 + ((x0 >>> (x2 &&& 31)) &&& 1))), (2, .int (x2 + 1))] [] M Q)
set_option maxRecDepth 20000 in
set_option maxHeartbeats 2000000 in
theorem VX11_bits_4 {h : Nat} {x0 : Int32} {x1 : Int32} {x2 : Int32} {M : Mem} {Q : Option Value → Mem → Prop} (H : DX11_bits_4 h x0 x1 x2 M Q) : T (h + 1) mdX11_bits 4 [(0, .int x0), (1, .int x1), (2, .int x2)] [] M Q := by
  unfold DX11_bits_4 at H
  refine xt_iload_n (j := 2) dX11_bits_4 rfl rfl ?_
  refine xt_bipush (v := 31) dX11_bits_5 (by decide) ?_
  refine xt_icmp_ge (tgt := 24) dX11_bits_7 (by decide) (fun hc => ?_) (fun hc => ?_)
  · have H := H.1 hc
    refine xt_iload_n (j := 1) dX11_bits_24 rfl rfl ?_
    exact xt_ireturn dX11_bits_25 rfl H
  · have H := H.2 hc
    refine xt_iload_n (j := 1) dX11_bits_10 rfl rfl ?_
    refine xt_iload_n (j := 0) dX11_bits_11 rfl rfl ?_
    refine xt_iload_n (j := 2) dX11_bits_12 rfl rfl ?_
    refine xt_ishr dX11_bits_13 ?_
    refine xt_iconst (v := 1) dX11_bits_14 (by decide) ?_
    refine xt_iand dX11_bits_15 ?_
    refine xt_iadd dX11_bits_16 ?_
    refine xt_istore_n (lv' := [(1, .int (x1 + ((x0 >>> (x2 &&& 31)) &&& 1))), (0, .int x0), (2, .int x2)]) dX11_bits_17 rfl (by decide) rfl ?_
    refine xt_iinc (j := 2) (v := x2 + 1) (lv' := [(2, .int (x2 + 1)), (1, .int (x1 + ((x0 >>> (x2 &&& 31)) &&& 1))), (0, .int x0)]) dX11_bits_18 rfl (by rfl) (by decide) rfl ?_
    refine xt_goto (tgt := 4) dX11_bits_21 (by decide) ?_
    exact xt_sub (lv' := [(0, .int x0), (1, .int (x1 + ((x0 >>> (x2 &&& 31)) &&& 1))), (2, .int (x2 + 1))]) [2, 1, 0] rfl H
def DX11_bits_0 (h : Nat) (x0 : Int32) (M : Mem) (Q : Option Value → Mem → Prop) : Prop :=
  T (h + 1) mdX11_bits 4 [(0, .int x0), (1, .int 0), (2, .int 0)] [] M Q
set_option maxRecDepth 20000 in
set_option maxHeartbeats 2000000 in
theorem VX11_bits_0 {h : Nat} {x0 : Int32} {M : Mem} {Q : Option Value → Mem → Prop} (H : DX11_bits_0 h x0 M Q) : T (h + 1) mdX11_bits 0 [(0, .int x0)] [] M Q := by
  unfold DX11_bits_0 at H
  refine xt_iconst (v := 0) dX11_bits_0 (by decide) ?_
  refine xt_istore_n (lv' := [(1, .int 0), (0, .int x0)]) dX11_bits_1 rfl (by decide) rfl ?_
  refine xt_iconst (v := 0) dX11_bits_2 (by decide) ?_
  refine xt_istore_n (lv' := [(2, .int 0), (1, .int 0), (0, .int x0)]) dX11_bits_3 rfl (by decide) rfl ?_
  exact xt_sub (lv' := [(0, .int x0), (1, .int 0), (2, .int 0)]) [2, 1, 0] rfl H
theorem KX11_bits {h : Nat} {x0 : Int32} {M : Mem} {Q : Option Value → Mem → Prop} (H : DX11_bits_0 h x0 M Q) : E (h + 1) mdX11_bits [.int x0] M Q := E.of (by decide) (Nat.le_of_ble_eq_true rfl) (fun _ _ _ => trivial) (VX11_bits_0 H)
def DX11_told_87 (h : Nat) (s0 : Int32) (M : Mem) (Q : Option Value → Mem → Prop) : Prop :=
  Q (some (.int s0)) M
set_option maxRecDepth 20000 in
set_option maxHeartbeats 2000000 in
theorem VX11_told_87 {h : Nat} {s0 : Int32} {M : Mem} {Q : Option Value → Mem → Prop} (H : DX11_told_87 h s0 M Q) : T (h + 1) mdX11_told 87 [] [.int s0] M Q := by
  unfold DX11_told_87 at H
  exact xt_ireturn dX11_told_87 rfl H
def DX11_told_0 (h : Nat) (x0 : Nat) (x1 : Int32) (x2 : Int32) (M : Mem) (Q : Option Value → Mem → Prop) : Prop :=
  ok M x0 13 ∧ E h mdX11_isGovernor [.ref x0, .int x1] M (fun r M2 => mE M M2 → ∃ r3 : Int32, r = some (.int r3) ∧ (¬ r3 = 0 → (x2 = 0 → ∃ b4 : Nat, mR M2 x0 99 = some b4 ∧ ok M2 b4 21 ∧ vp_in x1 (mL M2 b4) ∧ Q (some (.int (mAI M2 b4 (x1 : Int32).toNatClampNeg))) M2) ∧
  (x2 = 1 → ∃ b6 : Nat, mR M2 x0 95 = some b6 ∧ ok M2 b6 21 ∧ vp_in x1 (mL M2 b6) ∧ E h mdX11_bits [.int (mAI M2 b6 (x1 : Int32).toNatClampNeg)] M2 (fun r M8 => mE M2 M8 → ∃ r9 : Int32, r = some (.int r9) ∧ Q (some (.int r9)) M8)) ∧
  (x2 = 2 → ∃ b10 : Nat, mR M2 x0 94 = some b10 ∧ ok M2 b10 22 ∧ vp_in x1 (mL M2 b10) ∧ ((mAI M2 b10 (x1 : Int32).toNatClampNeg) = 0 → DX11_told_87 h 0 M2 Q) ∧
  (¬ ((mAI M2 b10 (x1 : Int32).toNatClampNeg) = 0) → DX11_told_87 h 1 M2 Q)) ∧
  (x2 = 3 → ∃ b12 : Nat, mR M2 x0 103 = some b12 ∧ ok M2 b12 21 ∧ vp_in x1 (mL M2 b12) ∧ Q (some (.int (mAI M2 b12 (x1 : Int32).toNatClampNeg))) M2) ∧
  (x2 = 4 → ∃ b14 : Nat, mR M2 x0 104 = some b14 ∧ ok M2 b14 21 ∧ vp_in x1 (mL M2 b14) ∧ Q (some (.int (mAI M2 b14 (x1 : Int32).toNatClampNeg))) M2) ∧
  (x2 = 5 → ∃ b16 : Nat, mR M2 x0 105 = some b16 ∧ ok M2 b16 21 ∧ vp_in x1 (mL M2 b16) ∧ Q (some (.int (mAI M2 b16 (x1 : Int32).toNatClampNeg))) M2) ∧
  (x2 = 6 → ∃ b18 : Nat, mR M2 x0 92 = some b18 ∧ ok M2 b18 21 ∧ vp_in x1 (mL M2 b18) ∧ Q (some (.int (mAI M2 b18 (x1 : Int32).toNatClampNeg))) M2) ∧
  (x2 = 7 → ∃ b20 : Nat, mR M2 x0 100 = some b20 ∧ ok M2 b20 21 ∧ vp_in x1 (mL M2 b20) ∧ Q (some (.int (mAI M2 b20 (x1 : Int32).toNatClampNeg))) M2) ∧
  (((x2 : Int32).toInt < 0 ∨ 7 < (x2 : Int32).toInt) → Q (some (.int (-1))) M2)) ∧
  (r3 = 0 → Q (some (.int (-1))) M2))
set_option maxRecDepth 20000 in
set_option maxHeartbeats 2000000 in
theorem VX11_told_0 {h : Nat} {x0 : Nat} {x1 : Int32} {x2 : Int32} {M : Mem} {Q : Option Value → Mem → Prop} (H : DX11_told_0 h x0 x1 x2 M Q) : T (h + 1) mdX11_told 0 [(0, .ref x0), (1, .int x1), (2, .int x2)] [] M Q := by
  unfold DX11_told_0 at H
  refine xt_aload_n (j := 0) dX11_told_0 rfl rfl ?_
  refine xt_iload_n (j := 1) dX11_told_1 rfl rfl ?_
  obtain ⟨ho1, H⟩ := H
  refine xt_callV (h2 := h) (as := [.int x1]) (st := []) dX11_told_2 (mlX11_795 rfl) rfl ho1.1 ⟨by rw [ho1.2]; rfl, by rw [ho1.2]; decide⟩ (by first | decide | (simp [Value.category]; done)) (Nat.le_refl _) H (fun r M2 HH hE => ?_)
  obtain ⟨r3, hr, H⟩ := HH hE
  subst hr
  have ho1 := ok_E ho1 hE
  show T _ _ _ _ [.int r3] _ _
  refine xt_if_ne (tgt := 10) dX11_told_5 (by decide) (fun hc => ?_) (fun hc => ?_)
  · have H := H.1 hc
    refine xt_iload_n (j := 2) dX11_told_10 rfl rfl ?_
    by_cases hsw : (x2 : Int32).toInt < 0 ∨ 7 < (x2 : Int32).toInt
    · refine xt_tableOut (tgt := 123) dX11_told_11 hsw (by decide) ?_
      have H := H.2.2.2.2.2.2.2.2 hsw
      refine xt_iconst (v := -1) dX11_told_123 (by decide) ?_
      exact xt_ireturn dX11_told_124 rfl H
    · have hsw2 : (x2 : Int32).toInt = 0 ∨ (x2 : Int32).toInt = 1 ∨ (x2 : Int32).toInt = 2 ∨ (x2 : Int32).toInt = 3 ∨ (x2 : Int32).toInt = 4 ∨ (x2 : Int32).toInt = 5 ∨ (x2 : Int32).toInt = 6 ∨ (x2 : Int32).toInt = 7 := by omega
      rcases hsw2 with hv | hv | hv | hv | hv | hv | hv | hv
      · have hx : x2 = 0 := i32_ofInt hv
        have H := H.1 hx
        refine xt_tableIn (tgt := 56) dX11_told_11 (by omega) (by omega) (by rw [hv]; rfl) (by decide) ?_
        refine xt_aload_n (j := 0) dX11_told_56 rfl rfl ?_
        obtain ⟨b4, hb, H⟩ := H
        refine xt_getR dX11_told_57 (flX11_249 rfl) ft_13_99 ho1.1 ho1.2 hb ?_
        refine xt_iload_n (j := 1) dX11_told_60 rfl rfl ?_
        obtain ⟨ho5, H⟩ := H
        obtain ⟨hi, H⟩ := H
        refine xt_iald dX11_told_61 ho5.1 ho5.2 hi ?_
        exact xt_ireturn dX11_told_62 rfl H
      · have hx : x2 = 1 := i32_ofInt hv
        have H := H.2.1 hx
        refine xt_tableIn (tgt := 63) dX11_told_11 (by omega) (by omega) (by rw [hv]; rfl) (by decide) ?_
        refine xt_aload_n (j := 0) dX11_told_63 rfl rfl ?_
        obtain ⟨b6, hb, H⟩ := H
        refine xt_getR dX11_told_64 (flX11_237 rfl) ft_13_95 ho1.1 ho1.2 hb ?_
        refine xt_iload_n (j := 1) dX11_told_67 rfl rfl ?_
        obtain ⟨ho7, H⟩ := H
        obtain ⟨hi, H⟩ := H
        refine xt_iald dX11_told_68 ho7.1 ho7.2 hi ?_
        refine xt_callS (h2 := h) (as := [.int (mAI M2 b6 (x1 : Int32).toNatClampNeg)]) (st := []) dX11_told_69 (mlX11_843 rfl) rfl (by first | decide | (simp [Value.category]; done)) (Nat.le_refl _) H (fun r M8 HH hE => ?_)
        obtain ⟨r9, hr, H⟩ := HH hE
        subst hr
        have ho1 := ok_E ho1 hE
        show T _ _ _ _ [.int r9] _ _
        exact xt_ireturn dX11_told_72 rfl H
      · have hx : x2 = 2 := i32_ofInt hv
        have H := H.2.2.1 hx
        refine xt_tableIn (tgt := 73) dX11_told_11 (by omega) (by omega) (by rw [hv]; rfl) (by decide) ?_
        refine xt_aload_n (j := 0) dX11_told_73 rfl rfl ?_
        obtain ⟨b10, hb, H⟩ := H
        refine xt_getR dX11_told_74 (flX11_234 rfl) ft_13_94 ho1.1 ho1.2 hb ?_
        refine xt_iload_n (j := 1) dX11_told_77 rfl rfl ?_
        obtain ⟨ho11, H⟩ := H
        obtain ⟨hi, H⟩ := H
        refine xt_zald dX11_told_78 ho11.1 ho11.2 hi ?_
        refine xt_if_eq (tgt := 86) dX11_told_79 (by decide) (fun hc => ?_) (fun hc => ?_)
        · have H := H.1 hc
          refine xt_iconst (v := 0) dX11_told_86 (by decide) ?_
          exact xt_sub [] rfl (VX11_told_87 H)
        · have H := H.2 hc
          refine xt_iconst (v := 1) dX11_told_82 (by decide) ?_
          refine xt_goto (tgt := 87) dX11_told_83 (by decide) ?_
          exact xt_sub [] rfl (VX11_told_87 H)
      · have hx : x2 = 3 := i32_ofInt hv
        have H := H.2.2.2.1 hx
        refine xt_tableIn (tgt := 88) dX11_told_11 (by omega) (by omega) (by rw [hv]; rfl) (by decide) ?_
        refine xt_aload_n (j := 0) dX11_told_88 rfl rfl ?_
        obtain ⟨b12, hb, H⟩ := H
        refine xt_getR dX11_told_89 (flX11_261 rfl) ft_13_103 ho1.1 ho1.2 hb ?_
        refine xt_iload_n (j := 1) dX11_told_92 rfl rfl ?_
        obtain ⟨ho13, H⟩ := H
        obtain ⟨hi, H⟩ := H
        refine xt_iald dX11_told_93 ho13.1 ho13.2 hi ?_
        exact xt_ireturn dX11_told_94 rfl H
      · have hx : x2 = 4 := i32_ofInt hv
        have H := H.2.2.2.2.1 hx
        refine xt_tableIn (tgt := 95) dX11_told_11 (by omega) (by omega) (by rw [hv]; rfl) (by decide) ?_
        refine xt_aload_n (j := 0) dX11_told_95 rfl rfl ?_
        obtain ⟨b14, hb, H⟩ := H
        refine xt_getR dX11_told_96 (flX11_264 rfl) ft_13_104 ho1.1 ho1.2 hb ?_
        refine xt_iload_n (j := 1) dX11_told_99 rfl rfl ?_
        obtain ⟨ho15, H⟩ := H
        obtain ⟨hi, H⟩ := H
        refine xt_iald dX11_told_100 ho15.1 ho15.2 hi ?_
        exact xt_ireturn dX11_told_101 rfl H
      · have hx : x2 = 5 := i32_ofInt hv
        have H := H.2.2.2.2.2.1 hx
        refine xt_tableIn (tgt := 102) dX11_told_11 (by omega) (by omega) (by rw [hv]; rfl) (by decide) ?_
        refine xt_aload_n (j := 0) dX11_told_102 rfl rfl ?_
        obtain ⟨b16, hb, H⟩ := H
        refine xt_getR dX11_told_103 (flX11_267 rfl) ft_13_105 ho1.1 ho1.2 hb ?_
        refine xt_iload_n (j := 1) dX11_told_106 rfl rfl ?_
        obtain ⟨ho17, H⟩ := H
        obtain ⟨hi, H⟩ := H
        refine xt_iald dX11_told_107 ho17.1 ho17.2 hi ?_
        exact xt_ireturn dX11_told_108 rfl H
      · have hx : x2 = 6 := i32_ofInt hv
        have H := H.2.2.2.2.2.2.1 hx
        refine xt_tableIn (tgt := 109) dX11_told_11 (by omega) (by omega) (by rw [hv]; rfl) (by decide) ?_
        refine xt_aload_n (j := 0) dX11_told_109 rfl rfl ?_
        obtain ⟨b18, hb, H⟩ := H
        refine xt_getR dX11_told_110 (flX11_228 rfl) ft_13_92 ho1.1 ho1.2 hb ?_
        refine xt_iload_n (j := 1) dX11_told_113 rfl rfl ?_
        obtain ⟨ho19, H⟩ := H
        obtain ⟨hi, H⟩ := H
        refine xt_iald dX11_told_114 ho19.1 ho19.2 hi ?_
        exact xt_ireturn dX11_told_115 rfl H
      · have hx : x2 = 7 := i32_ofInt hv
        have H := H.2.2.2.2.2.2.2.1 hx
        refine xt_tableIn (tgt := 116) dX11_told_11 (by omega) (by omega) (by rw [hv]; rfl) (by decide) ?_
        refine xt_aload_n (j := 0) dX11_told_116 rfl rfl ?_
        obtain ⟨b20, hb, H⟩ := H
        refine xt_getR dX11_told_117 (flX11_252 rfl) ft_13_100 ho1.1 ho1.2 hb ?_
        refine xt_iload_n (j := 1) dX11_told_120 rfl rfl ?_
        obtain ⟨ho21, H⟩ := H
        obtain ⟨hi, H⟩ := H
        refine xt_iald dX11_told_121 ho21.1 ho21.2 hi ?_
        exact xt_ireturn dX11_told_122 rfl H
  · have H := H.2 hc
    refine xt_iconst (v := -1) dX11_told_8 (by decide) ?_
    exact xt_ireturn dX11_told_9 rfl H
theorem KX11_told {h : Nat} {x0 : Nat} {x1 : Int32} {x2 : Int32} {M : Mem} {Q : Option Value → Mem → Prop} (H : DX11_told_0 h x0 x1 x2 M Q) : E (h + 1) mdX11_told [.ref x0, .int x1, .int x2] M Q := E.of (by decide) (Nat.le_of_ble_eq_true rfl) (fun _ _ _ => trivial) (VX11_told_0 H)
def DX11_paused_45 (h : Nat) (s0 : Int32) (M : Mem) (Q : Option Value → Mem → Prop) : Prop :=
  Q (some (.int s0)) M
set_option maxRecDepth 20000 in
set_option maxHeartbeats 2000000 in
theorem VX11_paused_45 {h : Nat} {s0 : Int32} {M : Mem} {Q : Option Value → Mem → Prop} (H : DX11_paused_45 h s0 M Q) : T (h + 1) mdX11_paused 45 [] [.int s0] M Q := by
  unfold DX11_paused_45 at H
  exact xt_ireturn dX11_paused_45 rfl H
def DX11_paused_44 (h : Nat) (M : Mem) (Q : Option Value → Mem → Prop) : Prop :=
  DX11_paused_45 h (-1) M Q
set_option maxRecDepth 20000 in
set_option maxHeartbeats 2000000 in
theorem VX11_paused_44 {h : Nat} {M : Mem} {Q : Option Value → Mem → Prop} (H : DX11_paused_44 h  M Q) : T (h + 1) mdX11_paused 44 [] [] M Q := by
  unfold DX11_paused_44 at H
  refine xt_iconst (v := -1) dX11_paused_44 (by decide) ?_
  exact xt_sub [] rfl (VX11_paused_45 H)
def DX11_paused_0 (h : Nat) (x0 : Nat) (x1 : Int32) (x2 : Int32) (M : Mem) (Q : Option Value → Mem → Prop) : Prop :=
  ok M x0 13 ∧ E h mdX11_isGovernor [.ref x0, .int x1] M (fun r M2 => mE M M2 → ∃ r3 : Int32, r = some (.int r3) ∧ (r3 = 0 → DX11_paused_44 h  M2 Q) ∧
  (¬ (r3 = 0) → ∃ b4 : Nat, mR M2 x0 35 = some b4 ∧ ∃ b5 : Nat, mR M2 x0 92 = some b5 ∧ ok M2 b5 21 ∧ vp_in x1 (mL M2 b5) ∧ ok M2 b4 21 ∧ vp_in (mAI M2 b5 (x1 : Int32).toNatClampNeg) (mL M2 b4) ∧ E h mdX11_in [.long ((x2 : Int32).toInt64), .long 0, .long (((mAI M2 b4 (mAI M2 b5 (x1 : Int32).toNatClampNeg : Int32).toNatClampNeg) - 1 : Int32).toInt64)] M2 (fun r M8 => mE M2 M8 → ∃ r9 : Int32, r = some (.int r9) ∧ (r9 = 0 → DX11_paused_44 h  M8 Q) ∧
  (¬ (r9 = 0) → ∃ b10 : Nat, mR M8 x0 95 = some b10 ∧ ok M8 b10 21 ∧ vp_in x1 (mL M8 b10) ∧ DX11_paused_45 h (((mAI M8 b10 (x1 : Int32).toNatClampNeg) >>> (x2 &&& 31)) &&& 1) M8 Q))))
set_option maxRecDepth 20000 in
set_option maxHeartbeats 2000000 in
theorem VX11_paused_0 {h : Nat} {x0 : Nat} {x1 : Int32} {x2 : Int32} {M : Mem} {Q : Option Value → Mem → Prop} (H : DX11_paused_0 h x0 x1 x2 M Q) : T (h + 1) mdX11_paused 0 [(0, .ref x0), (1, .int x1), (2, .int x2)] [] M Q := by
  unfold DX11_paused_0 at H
  refine xt_aload_n (j := 0) dX11_paused_0 rfl rfl ?_
  refine xt_iload_n (j := 1) dX11_paused_1 rfl rfl ?_
  obtain ⟨ho1, H⟩ := H
  refine xt_callV (h2 := h) (as := [.int x1]) (st := []) dX11_paused_2 (mlX11_795 rfl) rfl ho1.1 ⟨by rw [ho1.2]; rfl, by rw [ho1.2]; decide⟩ (by first | decide | (simp [Value.category]; done)) (Nat.le_refl _) H (fun r M2 HH hE => ?_)
  obtain ⟨r3, hr, H⟩ := HH hE
  subst hr
  have ho1 := ok_E ho1 hE
  show T _ _ _ _ [.int r3] _ _
  refine xt_if_eq (tgt := 44) dX11_paused_5 (by decide) (fun hc => ?_) (fun hc => ?_)
  · have H := H.1 hc
    exact xt_sub [] rfl (VX11_paused_44 H)
  · have H := H.2 hc
    refine xt_iload_n (j := 2) dX11_paused_8 rfl rfl ?_
    refine xt_i2l dX11_paused_9 ?_
    refine xt_lconst (v := 0) dX11_paused_10 (by decide) ?_
    refine xt_aload_n (j := 0) dX11_paused_11 rfl rfl ?_
    obtain ⟨b4, hb, H⟩ := H
    refine xt_getR dX11_paused_12 (flX11_87 rfl) ft_13_35 ho1.1 ho1.2 hb ?_
    refine xt_aload_n (j := 0) dX11_paused_15 rfl rfl ?_
    obtain ⟨b5, hb, H⟩ := H
    refine xt_getR dX11_paused_16 (flX11_228 rfl) ft_13_92 ho1.1 ho1.2 hb ?_
    refine xt_iload_n (j := 1) dX11_paused_19 rfl rfl ?_
    obtain ⟨ho6, H⟩ := H
    obtain ⟨hi, H⟩ := H
    refine xt_iald dX11_paused_20 ho6.1 ho6.2 hi ?_
    obtain ⟨ho7, H⟩ := H
    obtain ⟨hi, H⟩ := H
    refine xt_iald dX11_paused_21 ho7.1 ho7.2 hi ?_
    refine xt_iconst (v := 1) dX11_paused_22 (by decide) ?_
    refine xt_isub dX11_paused_23 ?_
    refine xt_i2l dX11_paused_24 ?_
    refine xt_callS (h2 := h) (as := [.long ((x2 : Int32).toInt64), .long 0, .long (((mAI M2 b4 (mAI M2 b5 (x1 : Int32).toNatClampNeg : Int32).toNatClampNeg) - 1 : Int32).toInt64)]) (st := []) dX11_paused_25 (mlX11_332 rfl) rfl (by first | decide | (simp [Value.category]; done)) (Nat.le_refl _) H (fun r M8 HH hE => ?_)
    obtain ⟨r9, hr, H⟩ := HH hE
    subst hr
    have ho1 := ok_E ho1 hE
    show T _ _ _ _ [.int r9] _ _
    refine xt_if_eq (tgt := 44) dX11_paused_28 (by decide) (fun hc => ?_) (fun hc => ?_)
    · have H := H.1 hc
      exact xt_sub [] rfl (VX11_paused_44 H)
    · have H := H.2 hc
      refine xt_aload_n (j := 0) dX11_paused_31 rfl rfl ?_
      obtain ⟨b10, hb, H⟩ := H
      refine xt_getR dX11_paused_32 (flX11_237 rfl) ft_13_95 ho1.1 ho1.2 hb ?_
      refine xt_iload_n (j := 1) dX11_paused_35 rfl rfl ?_
      obtain ⟨ho11, H⟩ := H
      obtain ⟨hi, H⟩ := H
      refine xt_iald dX11_paused_36 ho11.1 ho11.2 hi ?_
      refine xt_iload_n (j := 2) dX11_paused_37 rfl rfl ?_
      refine xt_ishr dX11_paused_38 ?_
      refine xt_iconst (v := 1) dX11_paused_39 (by decide) ?_
      refine xt_iand dX11_paused_40 ?_
      refine xt_goto (tgt := 45) dX11_paused_41 (by decide) ?_
      exact xt_sub [] rfl (VX11_paused_45 H)
theorem KX11_paused {h : Nat} {x0 : Nat} {x1 : Int32} {x2 : Int32} {M : Mem} {Q : Option Value → Mem → Prop} (H : DX11_paused_0 h x0 x1 x2 M Q) : E (h + 1) mdX11_paused [.ref x0, .int x1, .int x2] M Q := E.of (by decide) (Nat.le_of_ble_eq_true rfl) (fun _ _ _ => trivial) (VX11_paused_0 H)
def DX11_copy_98 (h : Nat) (x0 : Nat) (x1 : Int32) (x2 : Int32) (x3 : Int32) (M : Mem) (Q : Option Value → Mem → Prop) : Prop :=
  (6 ≤ x3 → Q none M) ∧
  (¬ (6 ≤ x3) → ok M x0 13 ∧ ∃ b2 : Nat, mR M x0 98 = some b2 ∧ ∃ b3 : Nat, mR M x0 98 = some b3 ∧ ok M b3 23 ∧ vp_in ((6 * x1) + x3) (mL M b3) ∧ ok M b2 23 ∧ vp_in ((6 * x2) + x3) (mL M b2) ∧ ∀ M6 : Mem, M6 = wAJ M b2 ((6 * x2) + x3 : Int32).toNatClampNeg (mAJ M b3 ((6 * x1) + x3 : Int32).toNatClampNeg) →
  T (h + 1) mdX11_copy 98 [(0, .ref x0), (1, .int x1), (2, .int x2), (3, .int (x3 + 1))] [] M6 Q)
set_option maxRecDepth 20000 in
set_option maxHeartbeats 2000000 in
theorem VX11_copy_98 {h : Nat} {x0 : Nat} {x1 : Int32} {x2 : Int32} {x3 : Int32} {M : Mem} {Q : Option Value → Mem → Prop} (H : DX11_copy_98 h x0 x1 x2 x3 M Q) : T (h + 1) mdX11_copy 98 [(0, .ref x0), (1, .int x1), (2, .int x2), (3, .int x3)] [] M Q := by
  unfold DX11_copy_98 at H
  refine xt_iload_n (j := 3) dX11_copy_98 rfl rfl ?_
  refine xt_bipush (v := 6) dX11_copy_99 (by decide) ?_
  refine xt_icmp_ge (tgt := 132) dX11_copy_101 (by decide) (fun hc => ?_) (fun hc => ?_)
  · have H := H.1 hc
    exact xt_return dX11_copy_132 rfl H
  · have H := H.2 hc
    refine xt_aload_n (j := 0) dX11_copy_104 rfl rfl ?_
    obtain ⟨ho1, H⟩ := H
    obtain ⟨b2, hb, H⟩ := H
    refine xt_getR dX11_copy_105 (flX11_246 rfl) ft_13_98 ho1.1 ho1.2 hb ?_
    refine xt_bipush (v := 6) dX11_copy_108 (by decide) ?_
    refine xt_iload_n (j := 2) dX11_copy_110 rfl rfl ?_
    refine xt_imul dX11_copy_111 ?_
    refine xt_iload_n (j := 3) dX11_copy_112 rfl rfl ?_
    refine xt_iadd dX11_copy_113 ?_
    refine xt_aload_n (j := 0) dX11_copy_114 rfl rfl ?_
    obtain ⟨b3, hb, H⟩ := H
    refine xt_getR dX11_copy_115 (flX11_246 rfl) ft_13_98 ho1.1 ho1.2 hb ?_
    refine xt_bipush (v := 6) dX11_copy_118 (by decide) ?_
    refine xt_iload_n (j := 1) dX11_copy_120 rfl rfl ?_
    refine xt_imul dX11_copy_121 ?_
    refine xt_iload_n (j := 3) dX11_copy_122 rfl rfl ?_
    refine xt_iadd dX11_copy_123 ?_
    obtain ⟨ho4, H⟩ := H
    obtain ⟨hi, H⟩ := H
    refine xt_lald dX11_copy_124 ho4.1 ho4.2 hi ?_
    obtain ⟨ho5, H⟩ := H
    obtain ⟨hi, H⟩ := H
    obtain ⟨M6, eM6⟩ : ∃ z, z = wAJ M b2 ((6 * x2) + x3 : Int32).toNatClampNeg (mAJ M b3 ((6 * x1) + x3 : Int32).toNatClampNeg) := ⟨_, rfl⟩
    have H := H _ eM6
    refine xt_last dX11_copy_125 ho5.1 ho5.2 hi ?_
    have ho1 : ok M6 x0 13 := by rw [eM6]; exact ho1
    rw [← eM6]
    refine xt_iinc (j := 3) (v := x3 + 1) (lv' := [(3, .int (x3 + 1)), (0, .ref x0), (1, .int x1), (2, .int x2)]) dX11_copy_126 rfl (by rfl) (by decide) rfl ?_
    refine xt_goto (tgt := 98) dX11_copy_129 (by decide) ?_
    exact xt_sub (lv' := [(0, .ref x0), (1, .int x1), (2, .int x2), (3, .int (x3 + 1))]) [1, 2, 3, 0] rfl H
def DX11_copy_62 (h : Nat) (x0 : Nat) (x1 : Int32) (x2 : Int32) (x3 : Int32) (M : Mem) (Q : Option Value → Mem → Prop) : Prop :=
  (16 ≤ x3 → T (h + 1) mdX11_copy 98 [(0, .ref x0), (1, .int x1), (2, .int x2), (3, .int 0)] [] M Q) ∧
  (¬ (16 ≤ x3) → ok M x0 13 ∧ ∃ b2 : Nat, mR M x0 97 = some b2 ∧ ∃ b3 : Nat, mR M x0 97 = some b3 ∧ ok M b3 23 ∧ vp_in ((16 * x1) + x3) (mL M b3) ∧ ok M b2 23 ∧ vp_in ((16 * x2) + x3) (mL M b2) ∧ ∀ M6 : Mem, M6 = wAJ M b2 ((16 * x2) + x3 : Int32).toNatClampNeg (mAJ M b3 ((16 * x1) + x3 : Int32).toNatClampNeg) →
  T (h + 1) mdX11_copy 62 [(0, .ref x0), (1, .int x1), (2, .int x2), (3, .int (x3 + 1))] [] M6 Q)
set_option maxRecDepth 20000 in
set_option maxHeartbeats 2000000 in
theorem VX11_copy_62 {h : Nat} {x0 : Nat} {x1 : Int32} {x2 : Int32} {x3 : Int32} {M : Mem} {Q : Option Value → Mem → Prop} (H : DX11_copy_62 h x0 x1 x2 x3 M Q) : T (h + 1) mdX11_copy 62 [(0, .ref x0), (1, .int x1), (2, .int x2), (3, .int x3)] [] M Q := by
  unfold DX11_copy_62 at H
  refine xt_iload_n (j := 3) dX11_copy_62 rfl rfl ?_
  refine xt_bipush (v := 16) dX11_copy_63 (by decide) ?_
  refine xt_icmp_ge (tgt := 96) dX11_copy_65 (by decide) (fun hc => ?_) (fun hc => ?_)
  · have H := H.1 hc
    refine xt_iconst (v := 0) dX11_copy_96 (by decide) ?_
    refine xt_istore_n (lv' := [(3, .int 0), (0, .ref x0), (1, .int x1), (2, .int x2)]) dX11_copy_97 rfl (by decide) rfl ?_
    exact xt_sub (lv' := [(0, .ref x0), (1, .int x1), (2, .int x2), (3, .int 0)]) [1, 2, 3, 0] rfl H
  · have H := H.2 hc
    refine xt_aload_n (j := 0) dX11_copy_68 rfl rfl ?_
    obtain ⟨ho1, H⟩ := H
    obtain ⟨b2, hb, H⟩ := H
    refine xt_getR dX11_copy_69 (flX11_243 rfl) ft_13_97 ho1.1 ho1.2 hb ?_
    refine xt_bipush (v := 16) dX11_copy_72 (by decide) ?_
    refine xt_iload_n (j := 2) dX11_copy_74 rfl rfl ?_
    refine xt_imul dX11_copy_75 ?_
    refine xt_iload_n (j := 3) dX11_copy_76 rfl rfl ?_
    refine xt_iadd dX11_copy_77 ?_
    refine xt_aload_n (j := 0) dX11_copy_78 rfl rfl ?_
    obtain ⟨b3, hb, H⟩ := H
    refine xt_getR dX11_copy_79 (flX11_243 rfl) ft_13_97 ho1.1 ho1.2 hb ?_
    refine xt_bipush (v := 16) dX11_copy_82 (by decide) ?_
    refine xt_iload_n (j := 1) dX11_copy_84 rfl rfl ?_
    refine xt_imul dX11_copy_85 ?_
    refine xt_iload_n (j := 3) dX11_copy_86 rfl rfl ?_
    refine xt_iadd dX11_copy_87 ?_
    obtain ⟨ho4, H⟩ := H
    obtain ⟨hi, H⟩ := H
    refine xt_lald dX11_copy_88 ho4.1 ho4.2 hi ?_
    obtain ⟨ho5, H⟩ := H
    obtain ⟨hi, H⟩ := H
    obtain ⟨M6, eM6⟩ : ∃ z, z = wAJ M b2 ((16 * x2) + x3 : Int32).toNatClampNeg (mAJ M b3 ((16 * x1) + x3 : Int32).toNatClampNeg) := ⟨_, rfl⟩
    have H := H _ eM6
    refine xt_last dX11_copy_89 ho5.1 ho5.2 hi ?_
    have ho1 : ok M6 x0 13 := by rw [eM6]; exact ho1
    rw [← eM6]
    refine xt_iinc (j := 3) (v := x3 + 1) (lv' := [(3, .int (x3 + 1)), (0, .ref x0), (1, .int x1), (2, .int x2)]) dX11_copy_90 rfl (by rfl) (by decide) rfl ?_
    refine xt_goto (tgt := 62) dX11_copy_93 (by decide) ?_
    exact xt_sub (lv' := [(0, .ref x0), (1, .int x1), (2, .int x2), (3, .int (x3 + 1))]) [1, 2, 3, 0] rfl H
def DX11_copy_0 (h : Nat) (x0 : Nat) (x1 : Int32) (x2 : Int32) (M : Mem) (Q : Option Value → Mem → Prop) : Prop :=
  ok M x0 13 ∧ ∃ b2 : Nat, mR M x0 93 = some b2 ∧ ∃ b3 : Nat, mR M x0 93 = some b3 ∧ ok M b3 22 ∧ vp_in x1 (mL M b3) ∧ ok M b2 22 ∧ vp_in x2 (mL M b2) ∧ ∀ M6 : Mem, M6 = wAI M b2 (x2 : Int32).toNatClampNeg (vp_nar .boolean (mAI M b3 (x1 : Int32).toNatClampNeg)) →
  ∃ b7 : Nat, mR M6 x0 94 = some b7 ∧ ∃ b8 : Nat, mR M6 x0 94 = some b8 ∧ ok M6 b8 22 ∧ vp_in x1 (mL M6 b8) ∧ ok M6 b7 22 ∧ vp_in x2 (mL M6 b7) ∧ ∀ M11 : Mem, M11 = wAI M6 b7 (x2 : Int32).toNatClampNeg (vp_nar .boolean (mAI M6 b8 (x1 : Int32).toNatClampNeg)) →
  ∃ b12 : Nat, mR M11 x0 95 = some b12 ∧ ∃ b13 : Nat, mR M11 x0 95 = some b13 ∧ ok M11 b13 21 ∧ vp_in x1 (mL M11 b13) ∧ ok M11 b12 21 ∧ vp_in x2 (mL M11 b12) ∧ ∀ M16 : Mem, M16 = wAI M11 b12 (x2 : Int32).toNatClampNeg (mAI M11 b13 (x1 : Int32).toNatClampNeg) →
  ∃ b17 : Nat, mR M16 x0 96 = some b17 ∧ ∃ b18 : Nat, mR M16 x0 96 = some b18 ∧ ok M16 b18 21 ∧ vp_in x1 (mL M16 b18) ∧ ok M16 b17 21 ∧ vp_in x2 (mL M16 b17) ∧ ∀ M21 : Mem, M21 = wAI M16 b17 (x2 : Int32).toNatClampNeg (mAI M16 b18 (x1 : Int32).toNatClampNeg) →
  ∃ b22 : Nat, mR M21 x0 99 = some b22 ∧ ∃ b23 : Nat, mR M21 x0 99 = some b23 ∧ ok M21 b23 21 ∧ vp_in x1 (mL M21 b23) ∧ ok M21 b22 21 ∧ vp_in x2 (mL M21 b22) ∧ ∀ M26 : Mem, M26 = wAI M21 b22 (x2 : Int32).toNatClampNeg (mAI M21 b23 (x1 : Int32).toNatClampNeg) →
  T (h + 1) mdX11_copy 62 [(0, .ref x0), (1, .int x1), (2, .int x2), (3, .int 0)] [] M26 Q
set_option maxRecDepth 20000 in
set_option maxHeartbeats 2000000 in
theorem VX11_copy_0 {h : Nat} {x0 : Nat} {x1 : Int32} {x2 : Int32} {M : Mem} {Q : Option Value → Mem → Prop} (H : DX11_copy_0 h x0 x1 x2 M Q) : T (h + 1) mdX11_copy 0 [(0, .ref x0), (1, .int x1), (2, .int x2)] [] M Q := by
  unfold DX11_copy_0 at H
  refine xt_aload_n (j := 0) dX11_copy_0 rfl rfl ?_
  obtain ⟨ho1, H⟩ := H
  obtain ⟨b2, hb, H⟩ := H
  refine xt_getR dX11_copy_1 (flX11_231 rfl) ft_13_93 ho1.1 ho1.2 hb ?_
  refine xt_iload_n (j := 2) dX11_copy_4 rfl rfl ?_
  refine xt_aload_n (j := 0) dX11_copy_5 rfl rfl ?_
  obtain ⟨b3, hb, H⟩ := H
  refine xt_getR dX11_copy_6 (flX11_231 rfl) ft_13_93 ho1.1 ho1.2 hb ?_
  refine xt_iload_n (j := 1) dX11_copy_9 rfl rfl ?_
  obtain ⟨ho4, H⟩ := H
  obtain ⟨hi, H⟩ := H
  refine xt_zald dX11_copy_10 ho4.1 ho4.2 hi ?_
  obtain ⟨ho5, H⟩ := H
  obtain ⟨hi, H⟩ := H
  obtain ⟨M6, eM6⟩ : ∃ z, z = wAI M b2 (x2 : Int32).toNatClampNeg (vp_nar .boolean (mAI M b3 (x1 : Int32).toNatClampNeg)) := ⟨_, rfl⟩
  have H := H _ eM6
  refine xt_zast dX11_copy_11 ho5.1 ho5.2 hi ?_
  have ho1 : ok M6 x0 13 := by rw [eM6]; exact ho1
  rw [← eM6]
  refine xt_aload_n (j := 0) dX11_copy_12 rfl rfl ?_
  obtain ⟨b7, hb, H⟩ := H
  refine xt_getR dX11_copy_13 (flX11_234 rfl) ft_13_94 ho1.1 ho1.2 hb ?_
  refine xt_iload_n (j := 2) dX11_copy_16 rfl rfl ?_
  refine xt_aload_n (j := 0) dX11_copy_17 rfl rfl ?_
  obtain ⟨b8, hb, H⟩ := H
  refine xt_getR dX11_copy_18 (flX11_234 rfl) ft_13_94 ho1.1 ho1.2 hb ?_
  refine xt_iload_n (j := 1) dX11_copy_21 rfl rfl ?_
  obtain ⟨ho9, H⟩ := H
  obtain ⟨hi, H⟩ := H
  refine xt_zald dX11_copy_22 ho9.1 ho9.2 hi ?_
  obtain ⟨ho10, H⟩ := H
  obtain ⟨hi, H⟩ := H
  obtain ⟨M11, eM11⟩ : ∃ z, z = wAI M6 b7 (x2 : Int32).toNatClampNeg (vp_nar .boolean (mAI M6 b8 (x1 : Int32).toNatClampNeg)) := ⟨_, rfl⟩
  have H := H _ eM11
  refine xt_zast dX11_copy_23 ho10.1 ho10.2 hi ?_
  have ho1 : ok M11 x0 13 := by rw [eM11]; exact ho1
  rw [← eM11]
  refine xt_aload_n (j := 0) dX11_copy_24 rfl rfl ?_
  obtain ⟨b12, hb, H⟩ := H
  refine xt_getR dX11_copy_25 (flX11_237 rfl) ft_13_95 ho1.1 ho1.2 hb ?_
  refine xt_iload_n (j := 2) dX11_copy_28 rfl rfl ?_
  refine xt_aload_n (j := 0) dX11_copy_29 rfl rfl ?_
  obtain ⟨b13, hb, H⟩ := H
  refine xt_getR dX11_copy_30 (flX11_237 rfl) ft_13_95 ho1.1 ho1.2 hb ?_
  refine xt_iload_n (j := 1) dX11_copy_33 rfl rfl ?_
  obtain ⟨ho14, H⟩ := H
  obtain ⟨hi, H⟩ := H
  refine xt_iald dX11_copy_34 ho14.1 ho14.2 hi ?_
  obtain ⟨ho15, H⟩ := H
  obtain ⟨hi, H⟩ := H
  obtain ⟨M16, eM16⟩ : ∃ z, z = wAI M11 b12 (x2 : Int32).toNatClampNeg (mAI M11 b13 (x1 : Int32).toNatClampNeg) := ⟨_, rfl⟩
  have H := H _ eM16
  refine xt_iast dX11_copy_35 ho15.1 ho15.2 hi ?_
  have ho1 : ok M16 x0 13 := by rw [eM16]; exact ho1
  rw [← eM16]
  refine xt_aload_n (j := 0) dX11_copy_36 rfl rfl ?_
  obtain ⟨b17, hb, H⟩ := H
  refine xt_getR dX11_copy_37 (flX11_240 rfl) ft_13_96 ho1.1 ho1.2 hb ?_
  refine xt_iload_n (j := 2) dX11_copy_40 rfl rfl ?_
  refine xt_aload_n (j := 0) dX11_copy_41 rfl rfl ?_
  obtain ⟨b18, hb, H⟩ := H
  refine xt_getR dX11_copy_42 (flX11_240 rfl) ft_13_96 ho1.1 ho1.2 hb ?_
  refine xt_iload_n (j := 1) dX11_copy_45 rfl rfl ?_
  obtain ⟨ho19, H⟩ := H
  obtain ⟨hi, H⟩ := H
  refine xt_iald dX11_copy_46 ho19.1 ho19.2 hi ?_
  obtain ⟨ho20, H⟩ := H
  obtain ⟨hi, H⟩ := H
  obtain ⟨M21, eM21⟩ : ∃ z, z = wAI M16 b17 (x2 : Int32).toNatClampNeg (mAI M16 b18 (x1 : Int32).toNatClampNeg) := ⟨_, rfl⟩
  have H := H _ eM21
  refine xt_iast dX11_copy_47 ho20.1 ho20.2 hi ?_
  have ho1 : ok M21 x0 13 := by rw [eM21]; exact ho1
  rw [← eM21]
  refine xt_aload_n (j := 0) dX11_copy_48 rfl rfl ?_
  obtain ⟨b22, hb, H⟩ := H
  refine xt_getR dX11_copy_49 (flX11_249 rfl) ft_13_99 ho1.1 ho1.2 hb ?_
  refine xt_iload_n (j := 2) dX11_copy_52 rfl rfl ?_
  refine xt_aload_n (j := 0) dX11_copy_53 rfl rfl ?_
  obtain ⟨b23, hb, H⟩ := H
  refine xt_getR dX11_copy_54 (flX11_249 rfl) ft_13_99 ho1.1 ho1.2 hb ?_
  refine xt_iload_n (j := 1) dX11_copy_57 rfl rfl ?_
  obtain ⟨ho24, H⟩ := H
  obtain ⟨hi, H⟩ := H
  refine xt_iald dX11_copy_58 ho24.1 ho24.2 hi ?_
  obtain ⟨ho25, H⟩ := H
  obtain ⟨hi, H⟩ := H
  obtain ⟨M26, eM26⟩ : ∃ z, z = wAI M21 b22 (x2 : Int32).toNatClampNeg (mAI M21 b23 (x1 : Int32).toNatClampNeg) := ⟨_, rfl⟩
  have H := H _ eM26
  refine xt_iast dX11_copy_59 ho25.1 ho25.2 hi ?_
  have ho1 : ok M26 x0 13 := by rw [eM26]; exact ho1
  rw [← eM26]
  refine xt_iconst (v := 0) dX11_copy_60 (by decide) ?_
  refine xt_istore_n (lv' := [(3, .int 0), (0, .ref x0), (1, .int x1), (2, .int x2)]) dX11_copy_61 rfl (by decide) rfl ?_
  exact xt_sub (lv' := [(0, .ref x0), (1, .int x1), (2, .int x2), (3, .int 0)]) [1, 2, 3, 0] rfl H
theorem KX11_copy {h : Nat} {x0 : Nat} {x1 : Int32} {x2 : Int32} {M : Mem} {Q : Option Value → Mem → Prop} (H : DX11_copy_0 h x0 x1 x2 M Q) : E (h + 1) mdX11_copy [.ref x0, .int x1, .int x2] M Q := E.of (by decide) (Nat.le_of_ble_eq_true rfl) (fun _ _ _ => trivial) (VX11_copy_0 H)
def DX11_keep_0 (h : Nat) (x0 : Nat) (x1 : Int32) (M : Mem) (Q : Option Value → Mem → Prop) : Prop :=
  ok M x0 13 ∧ E h mdX11_isGovernor [.ref x0, .int x1] M (fun r M2 => mE M M2 → ∃ r3 : Int32, r = some (.int r3) ∧ (¬ r3 = 0 → ∃ b4 : Nat, mR M2 x0 100 = some b4 ∧ ok M2 b4 21 ∧ vp_in x1 (mL M2 b4) ∧ (¬ (mAI M2 b4 (x1 : Int32).toNatClampNeg) = 3 → ∃ b6 : Nat, mR M2 x0 100 = some b6 ∧ ok M2 b6 21 ∧ vp_in x1 (mL M2 b6) ∧ E h mdX11_copy [.ref x0, .int x1, .int ((8 + (3 * x1)) + (mAI M2 b6 (x1 : Int32).toNatClampNeg))] M2 (fun r M8 => mE M2 M8 → r = none ∧ ∃ b9 : Nat, mR M8 x0 100 = some b9 ∧ ok M8 b9 21 ∧ vp_in x1 (mL M8 b9) ∧ vp_in x1 (mL M8 b9) ∧ ∀ M11 : Mem, M11 = wAI M8 b9 (x1 : Int32).toNatClampNeg ((mAI M8 b9 (x1 : Int32).toNatClampNeg) + 1) →
  ∃ b12 : Nat, mR M11 x0 100 = some b12 ∧ ok M11 b12 21 ∧ vp_in x1 (mL M11 b12) ∧ Q (some (.int (mAI M11 b12 (x1 : Int32).toNatClampNeg))) M11)) ∧
  ((mAI M2 b4 (x1 : Int32).toNatClampNeg) = 3 → Q (some (.int (-3))) M2)) ∧
  (r3 = 0 → Q (some (.int (-1))) M2))
set_option maxRecDepth 20000 in
set_option maxHeartbeats 2000000 in
theorem VX11_keep_0 {h : Nat} {x0 : Nat} {x1 : Int32} {M : Mem} {Q : Option Value → Mem → Prop} (H : DX11_keep_0 h x0 x1 M Q) : T (h + 1) mdX11_keep 0 [(0, .ref x0), (1, .int x1)] [] M Q := by
  unfold DX11_keep_0 at H
  refine xt_aload_n (j := 0) dX11_keep_0 rfl rfl ?_
  refine xt_iload_n (j := 1) dX11_keep_1 rfl rfl ?_
  obtain ⟨ho1, H⟩ := H
  refine xt_callV (h2 := h) (as := [.int x1]) (st := []) dX11_keep_2 (mlX11_795 rfl) rfl ho1.1 ⟨by rw [ho1.2]; rfl, by rw [ho1.2]; decide⟩ (by first | decide | (simp [Value.category]; done)) (Nat.le_refl _) H (fun r M2 HH hE => ?_)
  obtain ⟨r3, hr, H⟩ := HH hE
  subst hr
  have ho1 := ok_E ho1 hE
  show T _ _ _ _ [.int r3] _ _
  refine xt_if_ne (tgt := 10) dX11_keep_5 (by decide) (fun hc => ?_) (fun hc => ?_)
  · have H := H.1 hc
    refine xt_aload_n (j := 0) dX11_keep_10 rfl rfl ?_
    obtain ⟨b4, hb, H⟩ := H
    refine xt_getR dX11_keep_11 (flX11_252 rfl) ft_13_100 ho1.1 ho1.2 hb ?_
    refine xt_iload_n (j := 1) dX11_keep_14 rfl rfl ?_
    obtain ⟨ho5, H⟩ := H
    obtain ⟨hi, H⟩ := H
    refine xt_iald dX11_keep_15 ho5.1 ho5.2 hi ?_
    refine xt_iconst (v := 3) dX11_keep_16 (by decide) ?_
    refine xt_icmp_ne (tgt := 23) dX11_keep_17 (by decide) (fun hc => ?_) (fun hc => ?_)
    · have H := H.1 hc
      refine xt_aload_n (j := 0) dX11_keep_23 rfl rfl ?_
      refine xt_iload_n (j := 1) dX11_keep_24 rfl rfl ?_
      refine xt_bipush (v := 8) dX11_keep_25 (by decide) ?_
      refine xt_iconst (v := 3) dX11_keep_27 (by decide) ?_
      refine xt_iload_n (j := 1) dX11_keep_28 rfl rfl ?_
      refine xt_imul dX11_keep_29 ?_
      refine xt_iadd dX11_keep_30 ?_
      refine xt_aload_n (j := 0) dX11_keep_31 rfl rfl ?_
      obtain ⟨b6, hb, H⟩ := H
      refine xt_getR dX11_keep_32 (flX11_252 rfl) ft_13_100 ho1.1 ho1.2 hb ?_
      refine xt_iload_n (j := 1) dX11_keep_35 rfl rfl ?_
      obtain ⟨ho7, H⟩ := H
      obtain ⟨hi, H⟩ := H
      refine xt_iald dX11_keep_36 ho7.1 ho7.2 hi ?_
      refine xt_iadd dX11_keep_37 ?_
      refine xt_callV (h2 := h) (as := [.int x1, .int ((8 + (3 * x1)) + (mAI M2 b6 (x1 : Int32).toNatClampNeg))]) (st := []) dX11_keep_38 (mlX11_846 rfl) rfl ho1.1 ⟨by rw [ho1.2]; rfl, by rw [ho1.2]; decide⟩ (by first | decide | (simp [Value.category]; done)) (Nat.le_refl _) H (fun r M8 HH hE => ?_)
      obtain ⟨hr, H⟩ := HH hE
      subst hr
      have ho1 := ok_E ho1 hE
      show T _ _ _ _ [] _ _
      refine xt_aload_n (j := 0) dX11_keep_41 rfl rfl ?_
      obtain ⟨b9, hb, H⟩ := H
      refine xt_getR dX11_keep_42 (flX11_252 rfl) ft_13_100 ho1.1 ho1.2 hb ?_
      refine xt_iload_n (j := 1) dX11_keep_45 rfl rfl ?_
      refine xt_dup2 dX11_keep_46 rfl rfl ?_
      obtain ⟨ho10, H⟩ := H
      obtain ⟨hi, H⟩ := H
      refine xt_iald dX11_keep_47 ho10.1 ho10.2 hi ?_
      refine xt_iconst (v := 1) dX11_keep_48 (by decide) ?_
      refine xt_iadd dX11_keep_49 ?_
      obtain ⟨hi, H⟩ := H
      obtain ⟨M11, eM11⟩ : ∃ z, z = wAI M8 b9 (x1 : Int32).toNatClampNeg ((mAI M8 b9 (x1 : Int32).toNatClampNeg) + 1) := ⟨_, rfl⟩
      have H := H _ eM11
      refine xt_iast dX11_keep_50 ho10.1 ho10.2 hi ?_
      have ho1 : ok M11 x0 13 := by rw [eM11]; exact ho1
      rw [← eM11]
      refine xt_aload_n (j := 0) dX11_keep_51 rfl rfl ?_
      obtain ⟨b12, hb, H⟩ := H
      refine xt_getR dX11_keep_52 (flX11_252 rfl) ft_13_100 ho1.1 ho1.2 hb ?_
      refine xt_iload_n (j := 1) dX11_keep_55 rfl rfl ?_
      obtain ⟨ho13, H⟩ := H
      obtain ⟨hi, H⟩ := H
      refine xt_iald dX11_keep_56 ho13.1 ho13.2 hi ?_
      exact xt_ireturn dX11_keep_57 rfl H
    · have H := H.2 hc
      refine xt_bipush (v := -3) dX11_keep_20 (by decide) ?_
      exact xt_ireturn dX11_keep_22 rfl H
  · have H := H.2 hc
    refine xt_iconst (v := -1) dX11_keep_8 (by decide) ?_
    exact xt_ireturn dX11_keep_9 rfl H
theorem KX11_keep {h : Nat} {x0 : Nat} {x1 : Int32} {M : Mem} {Q : Option Value → Mem → Prop} (H : DX11_keep_0 h x0 x1 M Q) : E (h + 1) mdX11_keep [.ref x0, .int x1] M Q := E.of (by decide) (Nat.le_of_ble_eq_true rfl) (fun _ _ _ => trivial) (VX11_keep_0 H)
def DX11_back_0 (h : Nat) (x0 : Nat) (x1 : Int32) (M : Mem) (Q : Option Value → Mem → Prop) : Prop :=
  ok M x0 13 ∧ E h mdX11_isGovernor [.ref x0, .int x1] M (fun r M2 => mE M M2 → ∃ r3 : Int32, r = some (.int r3) ∧ (¬ r3 = 0 → ∃ b4 : Nat, mR M2 x0 100 = some b4 ∧ ok M2 b4 21 ∧ vp_in x1 (mL M2 b4) ∧ (¬ (mAI M2 b4 (x1 : Int32).toNatClampNeg) = 0 → ∃ b6 : Nat, mR M2 x0 100 = some b6 ∧ ok M2 b6 21 ∧ vp_in x1 (mL M2 b6) ∧ vp_in x1 (mL M2 b6) ∧ ∀ M8 : Mem, M8 = wAI M2 b6 (x1 : Int32).toNatClampNeg ((mAI M2 b6 (x1 : Int32).toNatClampNeg) - 1) →
  ∃ b9 : Nat, mR M8 x0 100 = some b9 ∧ ok M8 b9 21 ∧ vp_in x1 (mL M8 b9) ∧ E h mdX11_copy [.ref x0, .int ((8 + (3 * x1)) + (mAI M8 b9 (x1 : Int32).toNatClampNeg)), .int x1] M8 (fun r M11 => mE M8 M11 → r = none ∧ E h mdX11_noAnswer [.ref x0, .int x1] M11 (fun r M12 => mE M11 M12 → r = none ∧ ∃ b13 : Nat, mR M12 x0 100 = some b13 ∧ ok M12 b13 21 ∧ vp_in x1 (mL M12 b13) ∧ Q (some (.int (mAI M12 b13 (x1 : Int32).toNatClampNeg))) M12))) ∧
  ((mAI M2 b4 (x1 : Int32).toNatClampNeg) = 0 → Q (some (.int (-2))) M2)) ∧
  (r3 = 0 → Q (some (.int (-1))) M2))
set_option maxRecDepth 20000 in
set_option maxHeartbeats 2000000 in
theorem VX11_back_0 {h : Nat} {x0 : Nat} {x1 : Int32} {M : Mem} {Q : Option Value → Mem → Prop} (H : DX11_back_0 h x0 x1 M Q) : T (h + 1) mdX11_back 0 [(0, .ref x0), (1, .int x1)] [] M Q := by
  unfold DX11_back_0 at H
  refine xt_aload_n (j := 0) dX11_back_0 rfl rfl ?_
  refine xt_iload_n (j := 1) dX11_back_1 rfl rfl ?_
  obtain ⟨ho1, H⟩ := H
  refine xt_callV (h2 := h) (as := [.int x1]) (st := []) dX11_back_2 (mlX11_795 rfl) rfl ho1.1 ⟨by rw [ho1.2]; rfl, by rw [ho1.2]; decide⟩ (by first | decide | (simp [Value.category]; done)) (Nat.le_refl _) H (fun r M2 HH hE => ?_)
  obtain ⟨r3, hr, H⟩ := HH hE
  subst hr
  have ho1 := ok_E ho1 hE
  show T _ _ _ _ [.int r3] _ _
  refine xt_if_ne (tgt := 10) dX11_back_5 (by decide) (fun hc => ?_) (fun hc => ?_)
  · have H := H.1 hc
    refine xt_aload_n (j := 0) dX11_back_10 rfl rfl ?_
    obtain ⟨b4, hb, H⟩ := H
    refine xt_getR dX11_back_11 (flX11_252 rfl) ft_13_100 ho1.1 ho1.2 hb ?_
    refine xt_iload_n (j := 1) dX11_back_14 rfl rfl ?_
    obtain ⟨ho5, H⟩ := H
    obtain ⟨hi, H⟩ := H
    refine xt_iald dX11_back_15 ho5.1 ho5.2 hi ?_
    refine xt_if_ne (tgt := 22) dX11_back_16 (by decide) (fun hc => ?_) (fun hc => ?_)
    · have H := H.1 hc
      refine xt_aload_n (j := 0) dX11_back_22 rfl rfl ?_
      obtain ⟨b6, hb, H⟩ := H
      refine xt_getR dX11_back_23 (flX11_252 rfl) ft_13_100 ho1.1 ho1.2 hb ?_
      refine xt_iload_n (j := 1) dX11_back_26 rfl rfl ?_
      refine xt_dup2 dX11_back_27 rfl rfl ?_
      obtain ⟨ho7, H⟩ := H
      obtain ⟨hi, H⟩ := H
      refine xt_iald dX11_back_28 ho7.1 ho7.2 hi ?_
      refine xt_iconst (v := 1) dX11_back_29 (by decide) ?_
      refine xt_isub dX11_back_30 ?_
      obtain ⟨hi, H⟩ := H
      obtain ⟨M8, eM8⟩ : ∃ z, z = wAI M2 b6 (x1 : Int32).toNatClampNeg ((mAI M2 b6 (x1 : Int32).toNatClampNeg) - 1) := ⟨_, rfl⟩
      have H := H _ eM8
      refine xt_iast dX11_back_31 ho7.1 ho7.2 hi ?_
      have ho1 : ok M8 x0 13 := by rw [eM8]; exact ho1
      rw [← eM8]
      refine xt_aload_n (j := 0) dX11_back_32 rfl rfl ?_
      refine xt_bipush (v := 8) dX11_back_33 (by decide) ?_
      refine xt_iconst (v := 3) dX11_back_35 (by decide) ?_
      refine xt_iload_n (j := 1) dX11_back_36 rfl rfl ?_
      refine xt_imul dX11_back_37 ?_
      refine xt_iadd dX11_back_38 ?_
      refine xt_aload_n (j := 0) dX11_back_39 rfl rfl ?_
      obtain ⟨b9, hb, H⟩ := H
      refine xt_getR dX11_back_40 (flX11_252 rfl) ft_13_100 ho1.1 ho1.2 hb ?_
      refine xt_iload_n (j := 1) dX11_back_43 rfl rfl ?_
      obtain ⟨ho10, H⟩ := H
      obtain ⟨hi, H⟩ := H
      refine xt_iald dX11_back_44 ho10.1 ho10.2 hi ?_
      refine xt_iadd dX11_back_45 ?_
      refine xt_iload_n (j := 1) dX11_back_46 rfl rfl ?_
      refine xt_callV (h2 := h) (as := [.int ((8 + (3 * x1)) + (mAI M8 b9 (x1 : Int32).toNatClampNeg)), .int x1]) (st := []) dX11_back_47 (mlX11_846 rfl) rfl ho1.1 ⟨by rw [ho1.2]; rfl, by rw [ho1.2]; decide⟩ (by first | decide | (simp [Value.category]; done)) (Nat.le_refl _) H (fun r M11 HH hE => ?_)
      obtain ⟨hr, H⟩ := HH hE
      subst hr
      have ho1 := ok_E ho1 hE
      show T _ _ _ _ [] _ _
      refine xt_aload_n (j := 0) dX11_back_50 rfl rfl ?_
      refine xt_iload_n (j := 1) dX11_back_51 rfl rfl ?_
      refine xt_callV (h2 := h) (as := [.int x1]) (st := []) dX11_back_52 (mlX11_792 rfl) rfl ho1.1 ⟨by rw [ho1.2]; rfl, by rw [ho1.2]; decide⟩ (by first | decide | (simp [Value.category]; done)) (Nat.le_refl _) H (fun r M12 HH hE => ?_)
      obtain ⟨hr, H⟩ := HH hE
      subst hr
      have ho1 := ok_E ho1 hE
      show T _ _ _ _ [] _ _
      refine xt_aload_n (j := 0) dX11_back_55 rfl rfl ?_
      obtain ⟨b13, hb, H⟩ := H
      refine xt_getR dX11_back_56 (flX11_252 rfl) ft_13_100 ho1.1 ho1.2 hb ?_
      refine xt_iload_n (j := 1) dX11_back_59 rfl rfl ?_
      obtain ⟨ho14, H⟩ := H
      obtain ⟨hi, H⟩ := H
      refine xt_iald dX11_back_60 ho14.1 ho14.2 hi ?_
      exact xt_ireturn dX11_back_61 rfl H
    · have H := H.2 hc
      refine xt_bipush (v := -2) dX11_back_19 (by decide) ?_
      exact xt_ireturn dX11_back_21 rfl H
  · have H := H.2 hc
    refine xt_iconst (v := -1) dX11_back_8 (by decide) ?_
    exact xt_ireturn dX11_back_9 rfl H
theorem KX11_back {h : Nat} {x0 : Nat} {x1 : Int32} {M : Mem} {Q : Option Value → Mem → Prop} (H : DX11_back_0 h x0 x1 M Q) : E (h + 1) mdX11_back [.ref x0, .int x1] M Q := E.of (by decide) (Nat.le_of_ble_eq_true rfl) (fun _ _ _ => trivial) (VX11_back_0 H)
def DX11_same_16 (h : Nat) (M : Mem) (Q : Option Value → Mem → Prop) : Prop :=
  Q (some (.int (-1))) M
set_option maxRecDepth 20000 in
set_option maxHeartbeats 2000000 in
theorem VX11_same_16 {h : Nat} {M : Mem} {Q : Option Value → Mem → Prop} (H : DX11_same_16 h  M Q) : T (h + 1) mdX11_same 16 [] [] M Q := by
  unfold DX11_same_16 at H
  refine xt_iconst (v := -1) dX11_same_16 (by decide) ?_
  exact xt_ireturn dX11_same_17 rfl H
def DX11_same_219 (h : Nat) (s0 : Int32) (M : Mem) (Q : Option Value → Mem → Prop) : Prop :=
  Q (some (.int s0)) M
set_option maxRecDepth 20000 in
set_option maxHeartbeats 2000000 in
theorem VX11_same_219 {h : Nat} {s0 : Int32} {M : Mem} {Q : Option Value → Mem → Prop} (H : DX11_same_219 h s0 M Q) : T (h + 1) mdX11_same 219 [] [.int s0] M Q := by
  unfold DX11_same_219 at H
  exact xt_ireturn dX11_same_219 rfl H
def DX11_same_203 (h : Nat) (x0 : Nat) (x1 : Int32) (x2 : Int32) (x4 : Int32) (s0 : Int32) (M : Mem) (Q : Option Value → Mem → Prop) : Prop :=
  T (h + 1) mdX11_same 159 [(0, .ref x0), (1, .int x1), (2, .int x2), (3, .int s0), (4, .int (x4 + 1))] [] M Q
set_option maxRecDepth 20000 in
set_option maxHeartbeats 2000000 in
theorem VX11_same_203 {h : Nat} {x0 : Nat} {x1 : Int32} {x2 : Int32} {x4 : Int32} {s0 : Int32} {M : Mem} {Q : Option Value → Mem → Prop} (H : DX11_same_203 h x0 x1 x2 x4 s0 M Q) : T (h + 1) mdX11_same 203 [(0, .ref x0), (1, .int x1), (2, .int x2), (4, .int x4)] [.int s0] M Q := by
  unfold DX11_same_203 at H
  refine xt_istore_n (lv' := [(3, .int s0), (0, .ref x0), (1, .int x1), (2, .int x2), (4, .int x4)]) dX11_same_203 rfl (by decide) rfl ?_
  refine xt_iinc (j := 4) (v := x4 + 1) (lv' := [(4, .int (x4 + 1)), (3, .int s0), (0, .ref x0), (1, .int x1), (2, .int x2)]) dX11_same_204 rfl (by rfl) (by decide) rfl ?_
  refine xt_goto (tgt := 159) dX11_same_207 (by decide) ?_
  exact xt_sub (lv' := [(0, .ref x0), (1, .int x1), (2, .int x2), (3, .int s0), (4, .int (x4 + 1))]) [2, 3, 4, 1, 0] rfl H
def DX11_same_202 (h : Nat) (x0 : Nat) (x1 : Int32) (x2 : Int32) (x4 : Int32) (M : Mem) (Q : Option Value → Mem → Prop) : Prop :=
  DX11_same_203 h x0 x1 x2 x4 0 M Q
set_option maxRecDepth 20000 in
set_option maxHeartbeats 2000000 in
theorem VX11_same_202 {h : Nat} {x0 : Nat} {x1 : Int32} {x2 : Int32} {x4 : Int32} {M : Mem} {Q : Option Value → Mem → Prop} (H : DX11_same_202 h x0 x1 x2 x4 M Q) : T (h + 1) mdX11_same 202 [(0, .ref x0), (1, .int x1), (2, .int x2), (4, .int x4)] [] M Q := by
  unfold DX11_same_202 at H
  refine xt_iconst (v := 0) dX11_same_202 (by decide) ?_
  exact xt_sub [0, 1, 2, 3] rfl (VX11_same_203 H)
def DX11_same_159 (h : Nat) (x0 : Nat) (x1 : Int32) (x2 : Int32) (x3 : Int32) (x4 : Int32) (M : Mem) (Q : Option Value → Mem → Prop) : Prop :=
  (6 ≤ x4 → (x3 = 0 → DX11_same_219 h 0 M Q) ∧
  (¬ (x3 = 0) → DX11_same_219 h 1 M Q)) ∧
  (¬ (6 ≤ x4) → (x3 = 0 → DX11_same_202 h x0 x1 x2 x4 M Q) ∧
  (¬ (x3 = 0) → ok M x0 13 ∧ ∃ b2 : Nat, mR M x0 98 = some b2 ∧ ok M b2 23 ∧ vp_in ((6 * x1) + x4) (mL M b2) ∧ ∃ b4 : Nat, mR M x0 98 = some b4 ∧ ok M b4 23 ∧ vp_in ((6 * x2) + x4) (mL M b4) ∧ (¬ (lg_cmp (mAJ M b2 ((6 * x1) + x4 : Int32).toNatClampNeg) (mAJ M b4 ((6 * x2) + x4 : Int32).toNatClampNeg)) = 0 → DX11_same_202 h x0 x1 x2 x4 M Q) ∧
  ((lg_cmp (mAJ M b2 ((6 * x1) + x4 : Int32).toNatClampNeg) (mAJ M b4 ((6 * x2) + x4 : Int32).toNatClampNeg)) = 0 → DX11_same_203 h x0 x1 x2 x4 1 M Q)))
set_option maxRecDepth 20000 in
set_option maxHeartbeats 2000000 in
theorem VX11_same_159 {h : Nat} {x0 : Nat} {x1 : Int32} {x2 : Int32} {x3 : Int32} {x4 : Int32} {M : Mem} {Q : Option Value → Mem → Prop} (H : DX11_same_159 h x0 x1 x2 x3 x4 M Q) : T (h + 1) mdX11_same 159 [(0, .ref x0), (1, .int x1), (2, .int x2), (3, .int x3), (4, .int x4)] [] M Q := by
  unfold DX11_same_159 at H
  refine xt_iload (j := 4) dX11_same_159 rfl ?_
  refine xt_bipush (v := 6) dX11_same_161 (by decide) ?_
  refine xt_icmp_ge (tgt := 210) dX11_same_163 (by decide) (fun hc => ?_) (fun hc => ?_)
  · have H := H.1 hc
    refine xt_iload_n (j := 3) dX11_same_210 rfl rfl ?_
    refine xt_if_eq (tgt := 218) dX11_same_211 (by decide) (fun hc => ?_) (fun hc => ?_)
    · have H := H.1 hc
      refine xt_iconst (v := 0) dX11_same_218 (by decide) ?_
      exact xt_sub [] rfl (VX11_same_219 H)
    · have H := H.2 hc
      refine xt_iconst (v := 1) dX11_same_214 (by decide) ?_
      refine xt_goto (tgt := 219) dX11_same_215 (by decide) ?_
      exact xt_sub [] rfl (VX11_same_219 H)
  · have H := H.2 hc
    refine xt_iload_n (j := 3) dX11_same_166 rfl rfl ?_
    refine xt_if_eq (tgt := 202) dX11_same_167 (by decide) (fun hc => ?_) (fun hc => ?_)
    · have H := H.1 hc
      exact xt_sub [0, 1, 2, 4] rfl (VX11_same_202 H)
    · have H := H.2 hc
      refine xt_aload_n (j := 0) dX11_same_170 rfl rfl ?_
      obtain ⟨ho1, H⟩ := H
      obtain ⟨b2, hb, H⟩ := H
      refine xt_getR dX11_same_171 (flX11_246 rfl) ft_13_98 ho1.1 ho1.2 hb ?_
      refine xt_bipush (v := 6) dX11_same_174 (by decide) ?_
      refine xt_iload_n (j := 1) dX11_same_176 rfl rfl ?_
      refine xt_imul dX11_same_177 ?_
      refine xt_iload (j := 4) dX11_same_178 rfl ?_
      refine xt_iadd dX11_same_180 ?_
      obtain ⟨ho3, H⟩ := H
      obtain ⟨hi, H⟩ := H
      refine xt_lald dX11_same_181 ho3.1 ho3.2 hi ?_
      refine xt_aload_n (j := 0) dX11_same_182 rfl rfl ?_
      obtain ⟨b4, hb, H⟩ := H
      refine xt_getR dX11_same_183 (flX11_246 rfl) ft_13_98 ho1.1 ho1.2 hb ?_
      refine xt_bipush (v := 6) dX11_same_186 (by decide) ?_
      refine xt_iload_n (j := 2) dX11_same_188 rfl rfl ?_
      refine xt_imul dX11_same_189 ?_
      refine xt_iload (j := 4) dX11_same_190 rfl ?_
      refine xt_iadd dX11_same_192 ?_
      obtain ⟨ho5, H⟩ := H
      obtain ⟨hi, H⟩ := H
      refine xt_lald dX11_same_193 ho5.1 ho5.2 hi ?_
      refine xt_lcmp dX11_same_194 ?_
      refine xt_if_ne (tgt := 202) dX11_same_195 (by decide) (fun hc => ?_) (fun hc => ?_)
      · have H := H.1 hc
        exact xt_sub [0, 1, 2, 4] rfl (VX11_same_202 H)
      · have H := H.2 hc
        refine xt_iconst (v := 1) dX11_same_198 (by decide) ?_
        refine xt_goto (tgt := 203) dX11_same_199 (by decide) ?_
        exact xt_sub [0, 1, 2, 4] rfl (VX11_same_203 H)
def DX11_same_149 (h : Nat) (x0 : Nat) (x1 : Int32) (x2 : Int32) (x4 : Int32) (s0 : Int32) (M : Mem) (Q : Option Value → Mem → Prop) : Prop :=
  T (h + 1) mdX11_same 105 [(0, .ref x0), (1, .int x1), (2, .int x2), (3, .int s0), (4, .int (x4 + 1))] [] M Q
set_option maxRecDepth 20000 in
set_option maxHeartbeats 2000000 in
theorem VX11_same_149 {h : Nat} {x0 : Nat} {x1 : Int32} {x2 : Int32} {x4 : Int32} {s0 : Int32} {M : Mem} {Q : Option Value → Mem → Prop} (H : DX11_same_149 h x0 x1 x2 x4 s0 M Q) : T (h + 1) mdX11_same 149 [(0, .ref x0), (1, .int x1), (2, .int x2), (4, .int x4)] [.int s0] M Q := by
  unfold DX11_same_149 at H
  refine xt_istore_n (lv' := [(3, .int s0), (0, .ref x0), (1, .int x1), (2, .int x2), (4, .int x4)]) dX11_same_149 rfl (by decide) rfl ?_
  refine xt_iinc (j := 4) (v := x4 + 1) (lv' := [(4, .int (x4 + 1)), (3, .int s0), (0, .ref x0), (1, .int x1), (2, .int x2)]) dX11_same_150 rfl (by rfl) (by decide) rfl ?_
  refine xt_goto (tgt := 105) dX11_same_153 (by decide) ?_
  exact xt_sub (lv' := [(0, .ref x0), (1, .int x1), (2, .int x2), (3, .int s0), (4, .int (x4 + 1))]) [2, 3, 4, 1, 0] rfl H
def DX11_same_148 (h : Nat) (x0 : Nat) (x1 : Int32) (x2 : Int32) (x4 : Int32) (M : Mem) (Q : Option Value → Mem → Prop) : Prop :=
  DX11_same_149 h x0 x1 x2 x4 0 M Q
set_option maxRecDepth 20000 in
set_option maxHeartbeats 2000000 in
theorem VX11_same_148 {h : Nat} {x0 : Nat} {x1 : Int32} {x2 : Int32} {x4 : Int32} {M : Mem} {Q : Option Value → Mem → Prop} (H : DX11_same_148 h x0 x1 x2 x4 M Q) : T (h + 1) mdX11_same 148 [(0, .ref x0), (1, .int x1), (2, .int x2), (4, .int x4)] [] M Q := by
  unfold DX11_same_148 at H
  refine xt_iconst (v := 0) dX11_same_148 (by decide) ?_
  exact xt_sub [0, 1, 2, 3] rfl (VX11_same_149 H)
def DX11_same_105 (h : Nat) (x0 : Nat) (x1 : Int32) (x2 : Int32) (x3 : Int32) (x4 : Int32) (M : Mem) (Q : Option Value → Mem → Prop) : Prop :=
  (16 ≤ x4 → T (h + 1) mdX11_same 159 [(0, .ref x0), (1, .int x1), (2, .int x2), (3, .int x3), (4, .int 0)] [] M Q) ∧
  (¬ (16 ≤ x4) → (x3 = 0 → DX11_same_148 h x0 x1 x2 x4 M Q) ∧
  (¬ (x3 = 0) → ok M x0 13 ∧ ∃ b2 : Nat, mR M x0 97 = some b2 ∧ ok M b2 23 ∧ vp_in ((16 * x1) + x4) (mL M b2) ∧ ∃ b4 : Nat, mR M x0 97 = some b4 ∧ ok M b4 23 ∧ vp_in ((16 * x2) + x4) (mL M b4) ∧ (¬ (lg_cmp (mAJ M b2 ((16 * x1) + x4 : Int32).toNatClampNeg) (mAJ M b4 ((16 * x2) + x4 : Int32).toNatClampNeg)) = 0 → DX11_same_148 h x0 x1 x2 x4 M Q) ∧
  ((lg_cmp (mAJ M b2 ((16 * x1) + x4 : Int32).toNatClampNeg) (mAJ M b4 ((16 * x2) + x4 : Int32).toNatClampNeg)) = 0 → DX11_same_149 h x0 x1 x2 x4 1 M Q)))
set_option maxRecDepth 20000 in
set_option maxHeartbeats 2000000 in
theorem VX11_same_105 {h : Nat} {x0 : Nat} {x1 : Int32} {x2 : Int32} {x3 : Int32} {x4 : Int32} {M : Mem} {Q : Option Value → Mem → Prop} (H : DX11_same_105 h x0 x1 x2 x3 x4 M Q) : T (h + 1) mdX11_same 105 [(0, .ref x0), (1, .int x1), (2, .int x2), (3, .int x3), (4, .int x4)] [] M Q := by
  unfold DX11_same_105 at H
  refine xt_iload (j := 4) dX11_same_105 rfl ?_
  refine xt_bipush (v := 16) dX11_same_107 (by decide) ?_
  refine xt_icmp_ge (tgt := 156) dX11_same_109 (by decide) (fun hc => ?_) (fun hc => ?_)
  · have H := H.1 hc
    refine xt_iconst (v := 0) dX11_same_156 (by decide) ?_
    refine xt_istore (lv' := [(4, .int 0), (0, .ref x0), (1, .int x1), (2, .int x2), (3, .int x3)]) dX11_same_157 (by decide) rfl ?_
    exact xt_sub (lv' := [(0, .ref x0), (1, .int x1), (2, .int x2), (3, .int x3), (4, .int 0)]) [1, 2, 3, 4, 0] rfl H
  · have H := H.2 hc
    refine xt_iload_n (j := 3) dX11_same_112 rfl rfl ?_
    refine xt_if_eq (tgt := 148) dX11_same_113 (by decide) (fun hc => ?_) (fun hc => ?_)
    · have H := H.1 hc
      exact xt_sub [0, 1, 2, 4] rfl (VX11_same_148 H)
    · have H := H.2 hc
      refine xt_aload_n (j := 0) dX11_same_116 rfl rfl ?_
      obtain ⟨ho1, H⟩ := H
      obtain ⟨b2, hb, H⟩ := H
      refine xt_getR dX11_same_117 (flX11_243 rfl) ft_13_97 ho1.1 ho1.2 hb ?_
      refine xt_bipush (v := 16) dX11_same_120 (by decide) ?_
      refine xt_iload_n (j := 1) dX11_same_122 rfl rfl ?_
      refine xt_imul dX11_same_123 ?_
      refine xt_iload (j := 4) dX11_same_124 rfl ?_
      refine xt_iadd dX11_same_126 ?_
      obtain ⟨ho3, H⟩ := H
      obtain ⟨hi, H⟩ := H
      refine xt_lald dX11_same_127 ho3.1 ho3.2 hi ?_
      refine xt_aload_n (j := 0) dX11_same_128 rfl rfl ?_
      obtain ⟨b4, hb, H⟩ := H
      refine xt_getR dX11_same_129 (flX11_243 rfl) ft_13_97 ho1.1 ho1.2 hb ?_
      refine xt_bipush (v := 16) dX11_same_132 (by decide) ?_
      refine xt_iload_n (j := 2) dX11_same_134 rfl rfl ?_
      refine xt_imul dX11_same_135 ?_
      refine xt_iload (j := 4) dX11_same_136 rfl ?_
      refine xt_iadd dX11_same_138 ?_
      obtain ⟨ho5, H⟩ := H
      obtain ⟨hi, H⟩ := H
      refine xt_lald dX11_same_139 ho5.1 ho5.2 hi ?_
      refine xt_lcmp dX11_same_140 ?_
      refine xt_if_ne (tgt := 148) dX11_same_141 (by decide) (fun hc => ?_) (fun hc => ?_)
      · have H := H.1 hc
        exact xt_sub [0, 1, 2, 4] rfl (VX11_same_148 H)
      · have H := H.2 hc
        refine xt_iconst (v := 1) dX11_same_144 (by decide) ?_
        refine xt_goto (tgt := 149) dX11_same_145 (by decide) ?_
        exact xt_sub [0, 1, 2, 4] rfl (VX11_same_149 H)
def DX11_same_101 (h : Nat) (x0 : Nat) (x1 : Int32) (x2 : Int32) (s0 : Int32) (M : Mem) (Q : Option Value → Mem → Prop) : Prop :=
  T (h + 1) mdX11_same 105 [(0, .ref x0), (1, .int x1), (2, .int x2), (3, .int s0), (4, .int 0)] [] M Q
set_option maxRecDepth 20000 in
set_option maxHeartbeats 2000000 in
theorem VX11_same_101 {h : Nat} {x0 : Nat} {x1 : Int32} {x2 : Int32} {s0 : Int32} {M : Mem} {Q : Option Value → Mem → Prop} (H : DX11_same_101 h x0 x1 x2 s0 M Q) : T (h + 1) mdX11_same 101 [(0, .ref x0), (1, .int x1), (2, .int x2)] [.int s0] M Q := by
  unfold DX11_same_101 at H
  refine xt_istore_n (lv' := [(3, .int s0), (0, .ref x0), (1, .int x1), (2, .int x2)]) dX11_same_101 rfl (by decide) rfl ?_
  refine xt_iconst (v := 0) dX11_same_102 (by decide) ?_
  refine xt_istore (lv' := [(4, .int 0), (3, .int s0), (0, .ref x0), (1, .int x1), (2, .int x2)]) dX11_same_103 (by decide) rfl ?_
  exact xt_sub (lv' := [(0, .ref x0), (1, .int x1), (2, .int x2), (3, .int s0), (4, .int 0)]) [2, 3, 4, 1, 0] rfl H
def DX11_same_100 (h : Nat) (x0 : Nat) (x1 : Int32) (x2 : Int32) (M : Mem) (Q : Option Value → Mem → Prop) : Prop :=
  DX11_same_101 h x0 x1 x2 0 M Q
set_option maxRecDepth 20000 in
set_option maxHeartbeats 2000000 in
theorem VX11_same_100 {h : Nat} {x0 : Nat} {x1 : Int32} {x2 : Int32} {M : Mem} {Q : Option Value → Mem → Prop} (H : DX11_same_100 h x0 x1 x2 M Q) : T (h + 1) mdX11_same 100 [(0, .ref x0), (1, .int x1), (2, .int x2)] [] M Q := by
  unfold DX11_same_100 at H
  refine xt_iconst (v := 0) dX11_same_100 (by decide) ?_
  exact xt_sub [0, 1, 2] rfl (VX11_same_101 H)
def DX11_same_0 (h : Nat) (x0 : Nat) (x1 : Int32) (x2 : Int32) (M : Mem) (Q : Option Value → Mem → Prop) : Prop :=
  ok M x0 13 ∧ E h mdX11_isGovernor [.ref x0, .int x1] M (fun r M2 => mE M M2 → ∃ r3 : Int32, r = some (.int r3) ∧ (r3 = 0 → DX11_same_16 h  M2 Q) ∧
  (¬ (r3 = 0) → E h mdX11_isGovernor [.ref x0, .int x2] M2 (fun r M4 => mE M2 M4 → ∃ r5 : Int32, r = some (.int r5) ∧ (¬ r5 = 0 → ∃ b6 : Nat, mR M4 x0 92 = some b6 ∧ ok M4 b6 21 ∧ vp_in x1 (mL M4 b6) ∧ ∃ b8 : Nat, mR M4 x0 92 = some b8 ∧ ok M4 b8 21 ∧ vp_in x2 (mL M4 b8) ∧ ((mAI M4 b6 (x1 : Int32).toNatClampNeg) = (mAI M4 b8 (x2 : Int32).toNatClampNeg) → ∃ b10 : Nat, mR M4 x0 93 = some b10 ∧ ok M4 b10 22 ∧ vp_in x1 (mL M4 b10) ∧ ∃ b12 : Nat, mR M4 x0 93 = some b12 ∧ ok M4 b12 22 ∧ vp_in x2 (mL M4 b12) ∧ (¬ (mAI M4 b10 (x1 : Int32).toNatClampNeg) = (mAI M4 b12 (x2 : Int32).toNatClampNeg) → DX11_same_100 h x0 x1 x2 M4 Q) ∧
  ((mAI M4 b10 (x1 : Int32).toNatClampNeg) = (mAI M4 b12 (x2 : Int32).toNatClampNeg) → ∃ b14 : Nat, mR M4 x0 94 = some b14 ∧ ok M4 b14 22 ∧ vp_in x1 (mL M4 b14) ∧ ∃ b16 : Nat, mR M4 x0 94 = some b16 ∧ ok M4 b16 22 ∧ vp_in x2 (mL M4 b16) ∧ (¬ (mAI M4 b14 (x1 : Int32).toNatClampNeg) = (mAI M4 b16 (x2 : Int32).toNatClampNeg) → DX11_same_100 h x0 x1 x2 M4 Q) ∧
  ((mAI M4 b14 (x1 : Int32).toNatClampNeg) = (mAI M4 b16 (x2 : Int32).toNatClampNeg) → ∃ b18 : Nat, mR M4 x0 95 = some b18 ∧ ok M4 b18 21 ∧ vp_in x1 (mL M4 b18) ∧ ∃ b20 : Nat, mR M4 x0 95 = some b20 ∧ ok M4 b20 21 ∧ vp_in x2 (mL M4 b20) ∧ (¬ (mAI M4 b18 (x1 : Int32).toNatClampNeg) = (mAI M4 b20 (x2 : Int32).toNatClampNeg) → DX11_same_100 h x0 x1 x2 M4 Q) ∧
  ((mAI M4 b18 (x1 : Int32).toNatClampNeg) = (mAI M4 b20 (x2 : Int32).toNatClampNeg) → ∃ b22 : Nat, mR M4 x0 96 = some b22 ∧ ok M4 b22 21 ∧ vp_in x1 (mL M4 b22) ∧ ∃ b24 : Nat, mR M4 x0 96 = some b24 ∧ ok M4 b24 21 ∧ vp_in x2 (mL M4 b24) ∧ (¬ (mAI M4 b22 (x1 : Int32).toNatClampNeg) = (mAI M4 b24 (x2 : Int32).toNatClampNeg) → DX11_same_100 h x0 x1 x2 M4 Q) ∧
  ((mAI M4 b22 (x1 : Int32).toNatClampNeg) = (mAI M4 b24 (x2 : Int32).toNatClampNeg) → DX11_same_101 h x0 x1 x2 1 M4 Q))))) ∧
  (¬ ((mAI M4 b6 (x1 : Int32).toNatClampNeg) = (mAI M4 b8 (x2 : Int32).toNatClampNeg)) → Q (some (.int (-2))) M4)) ∧
  (r5 = 0 → DX11_same_16 h  M4 Q))))
set_option maxRecDepth 20000 in
set_option maxHeartbeats 2000000 in
theorem VX11_same_0 {h : Nat} {x0 : Nat} {x1 : Int32} {x2 : Int32} {M : Mem} {Q : Option Value → Mem → Prop} (H : DX11_same_0 h x0 x1 x2 M Q) : T (h + 1) mdX11_same 0 [(0, .ref x0), (1, .int x1), (2, .int x2)] [] M Q := by
  unfold DX11_same_0 at H
  refine xt_aload_n (j := 0) dX11_same_0 rfl rfl ?_
  refine xt_iload_n (j := 1) dX11_same_1 rfl rfl ?_
  obtain ⟨ho1, H⟩ := H
  refine xt_callV (h2 := h) (as := [.int x1]) (st := []) dX11_same_2 (mlX11_795 rfl) rfl ho1.1 ⟨by rw [ho1.2]; rfl, by rw [ho1.2]; decide⟩ (by first | decide | (simp [Value.category]; done)) (Nat.le_refl _) H (fun r M2 HH hE => ?_)
  obtain ⟨r3, hr, H⟩ := HH hE
  subst hr
  have ho1 := ok_E ho1 hE
  show T _ _ _ _ [.int r3] _ _
  refine xt_if_eq (tgt := 16) dX11_same_5 (by decide) (fun hc => ?_) (fun hc => ?_)
  · have H := H.1 hc
    exact xt_sub [] rfl (VX11_same_16 H)
  · have H := H.2 hc
    refine xt_aload_n (j := 0) dX11_same_8 rfl rfl ?_
    refine xt_iload_n (j := 2) dX11_same_9 rfl rfl ?_
    refine xt_callV (h2 := h) (as := [.int x2]) (st := []) dX11_same_10 (mlX11_795 rfl) rfl ho1.1 ⟨by rw [ho1.2]; rfl, by rw [ho1.2]; decide⟩ (by first | decide | (simp [Value.category]; done)) (Nat.le_refl _) H (fun r M4 HH hE => ?_)
    obtain ⟨r5, hr, H⟩ := HH hE
    subst hr
    have ho1 := ok_E ho1 hE
    show T _ _ _ _ [.int r5] _ _
    refine xt_if_ne (tgt := 18) dX11_same_13 (by decide) (fun hc => ?_) (fun hc => ?_)
    · have H := H.1 hc
      refine xt_aload_n (j := 0) dX11_same_18 rfl rfl ?_
      obtain ⟨b6, hb, H⟩ := H
      refine xt_getR dX11_same_19 (flX11_228 rfl) ft_13_92 ho1.1 ho1.2 hb ?_
      refine xt_iload_n (j := 1) dX11_same_22 rfl rfl ?_
      obtain ⟨ho7, H⟩ := H
      obtain ⟨hi, H⟩ := H
      refine xt_iald dX11_same_23 ho7.1 ho7.2 hi ?_
      refine xt_aload_n (j := 0) dX11_same_24 rfl rfl ?_
      obtain ⟨b8, hb, H⟩ := H
      refine xt_getR dX11_same_25 (flX11_228 rfl) ft_13_92 ho1.1 ho1.2 hb ?_
      refine xt_iload_n (j := 2) dX11_same_28 rfl rfl ?_
      obtain ⟨ho9, H⟩ := H
      obtain ⟨hi, H⟩ := H
      refine xt_iald dX11_same_29 ho9.1 ho9.2 hi ?_
      refine xt_icmp_eq (tgt := 36) dX11_same_30 (by decide) (fun hc => ?_) (fun hc => ?_)
      · have H := H.1 hc
        refine xt_aload_n (j := 0) dX11_same_36 rfl rfl ?_
        obtain ⟨b10, hb, H⟩ := H
        refine xt_getR dX11_same_37 (flX11_231 rfl) ft_13_93 ho1.1 ho1.2 hb ?_
        refine xt_iload_n (j := 1) dX11_same_40 rfl rfl ?_
        obtain ⟨ho11, H⟩ := H
        obtain ⟨hi, H⟩ := H
        refine xt_zald dX11_same_41 ho11.1 ho11.2 hi ?_
        refine xt_aload_n (j := 0) dX11_same_42 rfl rfl ?_
        obtain ⟨b12, hb, H⟩ := H
        refine xt_getR dX11_same_43 (flX11_231 rfl) ft_13_93 ho1.1 ho1.2 hb ?_
        refine xt_iload_n (j := 2) dX11_same_46 rfl rfl ?_
        obtain ⟨ho13, H⟩ := H
        obtain ⟨hi, H⟩ := H
        refine xt_zald dX11_same_47 ho13.1 ho13.2 hi ?_
        refine xt_icmp_ne (tgt := 100) dX11_same_48 (by decide) (fun hc => ?_) (fun hc => ?_)
        · have H := H.1 hc
          exact xt_sub [0, 1, 2] rfl (VX11_same_100 H)
        · have H := H.2 hc
          refine xt_aload_n (j := 0) dX11_same_51 rfl rfl ?_
          obtain ⟨b14, hb, H⟩ := H
          refine xt_getR dX11_same_52 (flX11_234 rfl) ft_13_94 ho1.1 ho1.2 hb ?_
          refine xt_iload_n (j := 1) dX11_same_55 rfl rfl ?_
          obtain ⟨ho15, H⟩ := H
          obtain ⟨hi, H⟩ := H
          refine xt_zald dX11_same_56 ho15.1 ho15.2 hi ?_
          refine xt_aload_n (j := 0) dX11_same_57 rfl rfl ?_
          obtain ⟨b16, hb, H⟩ := H
          refine xt_getR dX11_same_58 (flX11_234 rfl) ft_13_94 ho1.1 ho1.2 hb ?_
          refine xt_iload_n (j := 2) dX11_same_61 rfl rfl ?_
          obtain ⟨ho17, H⟩ := H
          obtain ⟨hi, H⟩ := H
          refine xt_zald dX11_same_62 ho17.1 ho17.2 hi ?_
          refine xt_icmp_ne (tgt := 100) dX11_same_63 (by decide) (fun hc => ?_) (fun hc => ?_)
          · have H := H.1 hc
            exact xt_sub [0, 1, 2] rfl (VX11_same_100 H)
          · have H := H.2 hc
            refine xt_aload_n (j := 0) dX11_same_66 rfl rfl ?_
            obtain ⟨b18, hb, H⟩ := H
            refine xt_getR dX11_same_67 (flX11_237 rfl) ft_13_95 ho1.1 ho1.2 hb ?_
            refine xt_iload_n (j := 1) dX11_same_70 rfl rfl ?_
            obtain ⟨ho19, H⟩ := H
            obtain ⟨hi, H⟩ := H
            refine xt_iald dX11_same_71 ho19.1 ho19.2 hi ?_
            refine xt_aload_n (j := 0) dX11_same_72 rfl rfl ?_
            obtain ⟨b20, hb, H⟩ := H
            refine xt_getR dX11_same_73 (flX11_237 rfl) ft_13_95 ho1.1 ho1.2 hb ?_
            refine xt_iload_n (j := 2) dX11_same_76 rfl rfl ?_
            obtain ⟨ho21, H⟩ := H
            obtain ⟨hi, H⟩ := H
            refine xt_iald dX11_same_77 ho21.1 ho21.2 hi ?_
            refine xt_icmp_ne (tgt := 100) dX11_same_78 (by decide) (fun hc => ?_) (fun hc => ?_)
            · have H := H.1 hc
              exact xt_sub [0, 1, 2] rfl (VX11_same_100 H)
            · have H := H.2 hc
              refine xt_aload_n (j := 0) dX11_same_81 rfl rfl ?_
              obtain ⟨b22, hb, H⟩ := H
              refine xt_getR dX11_same_82 (flX11_240 rfl) ft_13_96 ho1.1 ho1.2 hb ?_
              refine xt_iload_n (j := 1) dX11_same_85 rfl rfl ?_
              obtain ⟨ho23, H⟩ := H
              obtain ⟨hi, H⟩ := H
              refine xt_iald dX11_same_86 ho23.1 ho23.2 hi ?_
              refine xt_aload_n (j := 0) dX11_same_87 rfl rfl ?_
              obtain ⟨b24, hb, H⟩ := H
              refine xt_getR dX11_same_88 (flX11_240 rfl) ft_13_96 ho1.1 ho1.2 hb ?_
              refine xt_iload_n (j := 2) dX11_same_91 rfl rfl ?_
              obtain ⟨ho25, H⟩ := H
              obtain ⟨hi, H⟩ := H
              refine xt_iald dX11_same_92 ho25.1 ho25.2 hi ?_
              refine xt_icmp_ne (tgt := 100) dX11_same_93 (by decide) (fun hc => ?_) (fun hc => ?_)
              · have H := H.1 hc
                exact xt_sub [0, 1, 2] rfl (VX11_same_100 H)
              · have H := H.2 hc
                refine xt_iconst (v := 1) dX11_same_96 (by decide) ?_
                refine xt_goto (tgt := 101) dX11_same_97 (by decide) ?_
                exact xt_sub [0, 1, 2] rfl (VX11_same_101 H)
      · have H := H.2 hc
        refine xt_bipush (v := -2) dX11_same_33 (by decide) ?_
        exact xt_ireturn dX11_same_35 rfl H
    · have H := H.2 hc
      exact xt_sub [] rfl (VX11_same_16 H)
theorem KX11_same {h : Nat} {x0 : Nat} {x1 : Int32} {x2 : Int32} {M : Mem} {Q : Option Value → Mem → Prop} (H : DX11_same_0 h x0 x1 x2 M Q) : E (h + 1) mdX11_same [.ref x0, .int x1, .int x2] M Q := E.of (by decide) (Nat.le_of_ble_eq_true rfl) (fun _ _ _ => trivial) (VX11_same_0 H)
def DX11_moves_0 (h : Nat) (x0 : Nat) (x1 : Int32) (M : Mem) (Q : Option Value → Mem → Prop) : Prop :=
  ok M x0 13 ∧ ∃ b2 : Nat, mR M x0 9 = some b2 ∧ ok M b2 21 ∧ vp_in x1 (mL M b2) ∧ ∃ b4 : Nat, mR M x0 36 = some b4 ∧ ok M b4 21 ∧ vp_in x1 (mL M b4) ∧ Q (some (.int ((1 : Int32) <<< (((mAI M b2 (x1 : Int32).toNatClampNeg) + (mAI M b4 (x1 : Int32).toNatClampNeg)) &&& 31)))) M
set_option maxRecDepth 20000 in
set_option maxHeartbeats 2000000 in
theorem VX11_moves_0 {h : Nat} {x0 : Nat} {x1 : Int32} {M : Mem} {Q : Option Value → Mem → Prop} (H : DX11_moves_0 h x0 x1 M Q) : T (h + 1) mdX11_moves 0 [(0, .ref x0), (1, .int x1)] [] M Q := by
  unfold DX11_moves_0 at H
  refine xt_iconst (v := 1) dX11_moves_0 (by decide) ?_
  refine xt_aload_n (j := 0) dX11_moves_1 rfl rfl ?_
  obtain ⟨ho1, H⟩ := H
  obtain ⟨b2, hb, H⟩ := H
  refine xt_getR dX11_moves_2 (flX11_26 rfl) ft_13_9 ho1.1 ho1.2 hb ?_
  refine xt_iload_n (j := 1) dX11_moves_5 rfl rfl ?_
  obtain ⟨ho3, H⟩ := H
  obtain ⟨hi, H⟩ := H
  refine xt_iald dX11_moves_6 ho3.1 ho3.2 hi ?_
  refine xt_aload_n (j := 0) dX11_moves_7 rfl rfl ?_
  obtain ⟨b4, hb, H⟩ := H
  refine xt_getR dX11_moves_8 (flX11_90 rfl) ft_13_36 ho1.1 ho1.2 hb ?_
  refine xt_iload_n (j := 1) dX11_moves_11 rfl rfl ?_
  obtain ⟨ho5, H⟩ := H
  obtain ⟨hi, H⟩ := H
  refine xt_iald dX11_moves_12 ho5.1 ho5.2 hi ?_
  refine xt_iadd dX11_moves_13 ?_
  refine xt_ishl dX11_moves_14 ?_
  exact xt_ireturn dX11_moves_15 rfl H
theorem KX11_moves {h : Nat} {x0 : Nat} {x1 : Int32} {M : Mem} {Q : Option Value → Mem → Prop} (H : DX11_moves_0 h x0 x1 M Q) : E (h + 1) mdX11_moves [.ref x0, .int x1] M Q := E.of (by decide) (Nat.le_of_ble_eq_true rfl) (fun _ _ _ => trivial) (VX11_moves_0 H)
def DX11_stateOf_49 (h : Nat) (x0 : Nat) (x1 : Int32) (x2 : Int32) (x3 : Int32) (x4 : Int32) (M : Mem) (Q : Option Value → Mem → Prop) : Prop :=
  T (h + 1) mdX11_stateOf 3 [(0, .ref x0), (1, .int x1), (2, .int x2), (3, .int x3), (4, .int (x4 + 1))] [] M Q
set_option maxRecDepth 20000 in
set_option maxHeartbeats 2000000 in
theorem VX11_stateOf_49 {h : Nat} {x0 : Nat} {x1 : Int32} {x2 : Int32} {x3 : Int32} {x4 : Int32} {M : Mem} {Q : Option Value → Mem → Prop} (H : DX11_stateOf_49 h x0 x1 x2 x3 x4 M Q) : T (h + 1) mdX11_stateOf 49 [(0, .ref x0), (1, .int x1), (2, .int x2), (3, .int x3), (4, .int x4)] [] M Q := by
  unfold DX11_stateOf_49 at H
  refine xt_iinc (j := 4) (v := x4 + 1) (lv' := [(4, .int (x4 + 1)), (0, .ref x0), (1, .int x1), (2, .int x2), (3, .int x3)]) dX11_stateOf_49 rfl (by rfl) (by decide) rfl ?_
  refine xt_goto (tgt := 3) dX11_stateOf_52 (by decide) ?_
  exact xt_sub (lv' := [(0, .ref x0), (1, .int x1), (2, .int x2), (3, .int x3), (4, .int (x4 + 1))]) [1, 2, 3, 4, 0] rfl H
def DX11_stateOf_3 (h : Nat) (x0 : Nat) (x1 : Int32) (x2 : Int32) (x3 : Int32) (x4 : Int32) (M : Mem) (Q : Option Value → Mem → Prop) : Prop :=
  ok M x0 13 ∧ ∃ b2 : Nat, mR M x0 115 = some b2 ∧ ok M b2 21 ∧ vp_in x1 (mL M b2) ∧ ((mAI M b2 (x1 : Int32).toNatClampNeg) ≤ x4 → Q (some (.int (-1))) M) ∧
  (¬ ((mAI M b2 (x1 : Int32).toNatClampNeg) ≤ x4) → ∃ b4 : Nat, mR M x0 116 = some b4 ∧ ok M b4 21 ∧ vp_in ((48 * x1) + x4) (mL M b4) ∧ (¬ (mAI M b4 ((48 * x1) + x4 : Int32).toNatClampNeg) = x2 → DX11_stateOf_49 h x0 x1 x2 x3 x4 M Q) ∧
  ((mAI M b4 ((48 * x1) + x4 : Int32).toNatClampNeg) = x2 → ∃ b6 : Nat, mR M x0 117 = some b6 ∧ ok M b6 21 ∧ vp_in ((48 * x1) + x4) (mL M b6) ∧ (¬ (mAI M b6 ((48 * x1) + x4 : Int32).toNatClampNeg) = x3 → DX11_stateOf_49 h x0 x1 x2 x3 x4 M Q) ∧
  ((mAI M b6 ((48 * x1) + x4 : Int32).toNatClampNeg) = x3 → Q (some (.int x4)) M)))
set_option maxRecDepth 20000 in
set_option maxHeartbeats 2000000 in
theorem VX11_stateOf_3 {h : Nat} {x0 : Nat} {x1 : Int32} {x2 : Int32} {x3 : Int32} {x4 : Int32} {M : Mem} {Q : Option Value → Mem → Prop} (H : DX11_stateOf_3 h x0 x1 x2 x3 x4 M Q) : T (h + 1) mdX11_stateOf 3 [(0, .ref x0), (1, .int x1), (2, .int x2), (3, .int x3), (4, .int x4)] [] M Q := by
  unfold DX11_stateOf_3 at H
  refine xt_iload (j := 4) dX11_stateOf_3 rfl ?_
  refine xt_aload_n (j := 0) dX11_stateOf_5 rfl rfl ?_
  obtain ⟨ho1, H⟩ := H
  obtain ⟨b2, hb, H⟩ := H
  refine xt_getR dX11_stateOf_6 (flX11_291 rfl) ft_13_115 ho1.1 ho1.2 hb ?_
  refine xt_iload_n (j := 1) dX11_stateOf_9 rfl rfl ?_
  obtain ⟨ho3, H⟩ := H
  obtain ⟨hi, H⟩ := H
  refine xt_iald dX11_stateOf_10 ho3.1 ho3.2 hi ?_
  refine xt_icmp_ge (tgt := 55) dX11_stateOf_11 (by decide) (fun hc => ?_) (fun hc => ?_)
  · have H := H.1 hc
    refine xt_iconst (v := -1) dX11_stateOf_55 (by decide) ?_
    exact xt_ireturn dX11_stateOf_56 rfl H
  · have H := H.2 hc
    refine xt_aload_n (j := 0) dX11_stateOf_14 rfl rfl ?_
    obtain ⟨b4, hb, H⟩ := H
    refine xt_getR dX11_stateOf_15 (flX11_294 rfl) ft_13_116 ho1.1 ho1.2 hb ?_
    refine xt_bipush (v := 48) dX11_stateOf_18 (by decide) ?_
    refine xt_iload_n (j := 1) dX11_stateOf_20 rfl rfl ?_
    refine xt_imul dX11_stateOf_21 ?_
    refine xt_iload (j := 4) dX11_stateOf_22 rfl ?_
    refine xt_iadd dX11_stateOf_24 ?_
    obtain ⟨ho5, H⟩ := H
    obtain ⟨hi, H⟩ := H
    refine xt_iald dX11_stateOf_25 ho5.1 ho5.2 hi ?_
    refine xt_iload_n (j := 2) dX11_stateOf_26 rfl rfl ?_
    refine xt_icmp_ne (tgt := 49) dX11_stateOf_27 (by decide) (fun hc => ?_) (fun hc => ?_)
    · have H := H.1 hc
      exact xt_sub [0, 1, 2, 3, 4] rfl (VX11_stateOf_49 H)
    · have H := H.2 hc
      refine xt_aload_n (j := 0) dX11_stateOf_30 rfl rfl ?_
      obtain ⟨b6, hb, H⟩ := H
      refine xt_getR dX11_stateOf_31 (flX11_297 rfl) ft_13_117 ho1.1 ho1.2 hb ?_
      refine xt_bipush (v := 48) dX11_stateOf_34 (by decide) ?_
      refine xt_iload_n (j := 1) dX11_stateOf_36 rfl rfl ?_
      refine xt_imul dX11_stateOf_37 ?_
      refine xt_iload (j := 4) dX11_stateOf_38 rfl ?_
      refine xt_iadd dX11_stateOf_40 ?_
      obtain ⟨ho7, H⟩ := H
      obtain ⟨hi, H⟩ := H
      refine xt_iald dX11_stateOf_41 ho7.1 ho7.2 hi ?_
      refine xt_iload_n (j := 3) dX11_stateOf_42 rfl rfl ?_
      refine xt_icmp_ne (tgt := 49) dX11_stateOf_43 (by decide) (fun hc => ?_) (fun hc => ?_)
      · have H := H.1 hc
        exact xt_sub [0, 1, 2, 3, 4] rfl (VX11_stateOf_49 H)
      · have H := H.2 hc
        refine xt_iload (j := 4) dX11_stateOf_46 rfl ?_
        exact xt_ireturn dX11_stateOf_48 rfl H
def DX11_stateOf_0 (h : Nat) (x0 : Nat) (x1 : Int32) (x2 : Int32) (x3 : Int32) (M : Mem) (Q : Option Value → Mem → Prop) : Prop :=
  T (h + 1) mdX11_stateOf 3 [(0, .ref x0), (1, .int x1), (2, .int x2), (3, .int x3), (4, .int 1)] [] M Q
set_option maxRecDepth 20000 in
set_option maxHeartbeats 2000000 in
theorem VX11_stateOf_0 {h : Nat} {x0 : Nat} {x1 : Int32} {x2 : Int32} {x3 : Int32} {M : Mem} {Q : Option Value → Mem → Prop} (H : DX11_stateOf_0 h x0 x1 x2 x3 M Q) : T (h + 1) mdX11_stateOf 0 [(0, .ref x0), (1, .int x1), (2, .int x2), (3, .int x3)] [] M Q := by
  unfold DX11_stateOf_0 at H
  refine xt_iconst (v := 1) dX11_stateOf_0 (by decide) ?_
  refine xt_istore (lv' := [(4, .int 1), (0, .ref x0), (1, .int x1), (2, .int x2), (3, .int x3)]) dX11_stateOf_1 (by decide) rfl ?_
  exact xt_sub (lv' := [(0, .ref x0), (1, .int x1), (2, .int x2), (3, .int x3), (4, .int 1)]) [1, 2, 3, 4, 0] rfl H
theorem KX11_stateOf {h : Nat} {x0 : Nat} {x1 : Int32} {x2 : Int32} {x3 : Int32} {M : Mem} {Q : Option Value → Mem → Prop} (H : DX11_stateOf_0 h x0 x1 x2 x3 M Q) : E (h + 1) mdX11_stateOf [.ref x0, .int x1, .int x2, .int x3] M Q := E.of (by decide) (Nat.le_of_ble_eq_true rfl) (fun _ _ _ => trivial) (VX11_stateOf_0 H)
def DX11_look_209 (h : Nat) (M : Mem) (Q : Option Value → Mem → Prop) : Prop :=
  Q none M
set_option maxRecDepth 20000 in
set_option maxHeartbeats 2000000 in
theorem VX11_look_209 {h : Nat} {M : Mem} {Q : Option Value → Mem → Prop} (H : DX11_look_209 h  M Q) : T (h + 1) mdX11_look 209 [] [] M Q := by
  unfold DX11_look_209 at H
  exact xt_return dX11_look_209 rfl H
def DX11_look_194 (h : Nat) (x0 : Nat) (x1 : Int32) (M : Mem) (Q : Option Value → Mem → Prop) : Prop :=
  ok M x0 13 ∧ ∃ b2 : Nat, mR M x0 114 = some b2 ∧ ok M b2 21 ∧ vp_in x1 (mL M b2) ∧ (¬ (mAI M b2 (x1 : Int32).toNatClampNeg) = 1 → DX11_look_209 h  M Q) ∧
  ((mAI M b2 (x1 : Int32).toNatClampNeg) = 1 → E h mdX11_part1 [.ref x0, .int x1] M (fun r M4 => mE M M4 → r = none ∧ DX11_look_209 h  M4 Q))
set_option maxRecDepth 20000 in
set_option maxHeartbeats 2000000 in
theorem VX11_look_194 {h : Nat} {x0 : Nat} {x1 : Int32} {M : Mem} {Q : Option Value → Mem → Prop} (H : DX11_look_194 h x0 x1 M Q) : T (h + 1) mdX11_look 194 [(0, .ref x0), (1, .int x1)] [] M Q := by
  unfold DX11_look_194 at H
  refine xt_aload_n (j := 0) dX11_look_194 rfl rfl ?_
  obtain ⟨ho1, H⟩ := H
  obtain ⟨b2, hb, H⟩ := H
  refine xt_getR dX11_look_195 (flX11_288 rfl) ft_13_114 ho1.1 ho1.2 hb ?_
  refine xt_iload_n (j := 1) dX11_look_198 rfl rfl ?_
  obtain ⟨ho3, H⟩ := H
  obtain ⟨hi, H⟩ := H
  refine xt_iald dX11_look_199 ho3.1 ho3.2 hi ?_
  refine xt_iconst (v := 1) dX11_look_200 (by decide) ?_
  refine xt_icmp_ne (tgt := 209) dX11_look_201 (by decide) (fun hc => ?_) (fun hc => ?_)
  · have H := H.1 hc
    exact xt_sub [] rfl (VX11_look_209 H)
  · have H := H.2 hc
    refine xt_aload_n (j := 0) dX11_look_204 rfl rfl ?_
    refine xt_iload_n (j := 1) dX11_look_205 rfl rfl ?_
    refine xt_callV (h2 := h) (as := [.int x1]) (st := []) dX11_look_206 (mlX11_856 rfl) rfl ho1.1 ⟨by rw [ho1.2]; rfl, by rw [ho1.2]; decide⟩ (by first | decide | (simp [Value.category]; done)) (Nat.le_refl _) H (fun r M4 HH hE => ?_)
    obtain ⟨hr, H⟩ := HH hE
    subst hr
    have ho1 := ok_E ho1 hE
    show T _ _ _ _ [] _ _
    exact xt_sub [] rfl (VX11_look_209 H)
def DX11_look_188 (h : Nat) (x0 : Nat) (x1 : Int32) (x2 : Int32) (x3 : Int32) (M : Mem) (Q : Option Value → Mem → Prop) : Prop :=
  T (h + 1) mdX11_look 130 [(0, .ref x0), (1, .int x1), (2, .int x2), (3, .int (x3 + 1))] [] M Q
set_option maxRecDepth 20000 in
set_option maxHeartbeats 2000000 in
theorem VX11_look_188 {h : Nat} {x0 : Nat} {x1 : Int32} {x2 : Int32} {x3 : Int32} {M : Mem} {Q : Option Value → Mem → Prop} (H : DX11_look_188 h x0 x1 x2 x3 M Q) : T (h + 1) mdX11_look 188 [(0, .ref x0), (1, .int x1), (2, .int x2), (3, .int x3)] [] M Q := by
  unfold DX11_look_188 at H
  refine xt_iinc (j := 3) (v := x3 + 1) (lv' := [(3, .int (x3 + 1)), (0, .ref x0), (1, .int x1), (2, .int x2)]) dX11_look_188 rfl (by rfl) (by decide) rfl ?_
  refine xt_goto (tgt := 130) dX11_look_191 (by decide) ?_
  exact xt_sub (lv' := [(0, .ref x0), (1, .int x1), (2, .int x2), (3, .int (x3 + 1))]) [1, 2, 3, 0] rfl H
def DX11_look_153 (h : Nat) (x0 : Nat) (x1 : Int32) (x2 : Int32) (x3 : Int32) (x4 : Int32) (M : Mem) (Q : Option Value → Mem → Prop) : Prop :=
  ok M x0 13 ∧ E h mdX11_moves [.ref x0, .int x1] M (fun r M2 => mE M M2 → ∃ r3 : Int32, r = some (.int r3) ∧ (r3 ≤ x4 → DX11_look_188 h x0 x1 x2 x3 M2 Q) ∧
  (¬ (r3 ≤ x4) → ∃ b4 : Nat, mR M2 x0 114 = some b4 ∧ ok M2 b4 21 ∧ vp_in x1 (mL M2 b4) ∧ (¬ (mAI M2 b4 (x1 : Int32).toNatClampNeg) = 1 → DX11_look_188 h x0 x1 x2 x3 M2 Q) ∧
  ((mAI M2 b4 (x1 : Int32).toNatClampNeg) = 1 → E h mdX11_move1 [.ref x0, .int x1, .int x3, .int x4, .int x2] M2 (fun r M6 => mE M2 M6 → r = none ∧ T (h + 1) mdX11_look 153 [(0, .ref x0), (1, .int x1), (2, .int x2), (3, .int x3), (4, .int (x4 + 1))] [] M6 Q))))
set_option maxRecDepth 20000 in
set_option maxHeartbeats 2000000 in
theorem VX11_look_153 {h : Nat} {x0 : Nat} {x1 : Int32} {x2 : Int32} {x3 : Int32} {x4 : Int32} {M : Mem} {Q : Option Value → Mem → Prop} (H : DX11_look_153 h x0 x1 x2 x3 x4 M Q) : T (h + 1) mdX11_look 153 [(0, .ref x0), (1, .int x1), (2, .int x2), (3, .int x3), (4, .int x4)] [] M Q := by
  unfold DX11_look_153 at H
  refine xt_iload (j := 4) dX11_look_153 rfl ?_
  refine xt_aload_n (j := 0) dX11_look_155 rfl rfl ?_
  refine xt_iload_n (j := 1) dX11_look_156 rfl rfl ?_
  obtain ⟨ho1, H⟩ := H
  refine xt_callV (h2 := h) (as := [.int x1]) (st := [.int x4]) dX11_look_157 (mlX11_849 rfl) rfl ho1.1 ⟨by rw [ho1.2]; rfl, by rw [ho1.2]; decide⟩ (by first | decide | (simp [Value.category]; done)) (Nat.le_refl _) H (fun r M2 HH hE => ?_)
  obtain ⟨r3, hr, H⟩ := HH hE
  subst hr
  have ho1 := ok_E ho1 hE
  show T _ _ _ _ [.int r3, .int x4] _ _
  refine xt_icmp_ge (tgt := 188) dX11_look_160 (by decide) (fun hc => ?_) (fun hc => ?_)
  · have H := H.1 hc
    exact xt_sub [0, 1, 2, 3] rfl (VX11_look_188 H)
  · have H := H.2 hc
    refine xt_aload_n (j := 0) dX11_look_163 rfl rfl ?_
    obtain ⟨b4, hb, H⟩ := H
    refine xt_getR dX11_look_164 (flX11_288 rfl) ft_13_114 ho1.1 ho1.2 hb ?_
    refine xt_iload_n (j := 1) dX11_look_167 rfl rfl ?_
    obtain ⟨ho5, H⟩ := H
    obtain ⟨hi, H⟩ := H
    refine xt_iald dX11_look_168 ho5.1 ho5.2 hi ?_
    refine xt_iconst (v := 1) dX11_look_169 (by decide) ?_
    refine xt_icmp_ne (tgt := 188) dX11_look_170 (by decide) (fun hc => ?_) (fun hc => ?_)
    · have H := H.1 hc
      exact xt_sub [0, 1, 2, 3] rfl (VX11_look_188 H)
    · have H := H.2 hc
      refine xt_aload_n (j := 0) dX11_look_173 rfl rfl ?_
      refine xt_iload_n (j := 1) dX11_look_174 rfl rfl ?_
      refine xt_iload_n (j := 3) dX11_look_175 rfl rfl ?_
      refine xt_iload (j := 4) dX11_look_176 rfl ?_
      refine xt_iload_n (j := 2) dX11_look_178 rfl rfl ?_
      refine xt_callV (h2 := h) (as := [.int x1, .int x3, .int x4, .int x2]) (st := []) dX11_look_179 (mlX11_852 rfl) rfl ho1.1 ⟨by rw [ho1.2]; rfl, by rw [ho1.2]; decide⟩ (by first | decide | (simp [Value.category]; done)) (Nat.le_refl _) H (fun r M6 HH hE => ?_)
      obtain ⟨hr, H⟩ := HH hE
      subst hr
      have ho1 := ok_E ho1 hE
      show T _ _ _ _ [] _ _
      refine xt_iinc (j := 4) (v := x4 + 1) (lv' := [(4, .int (x4 + 1)), (0, .ref x0), (1, .int x1), (2, .int x2), (3, .int x3)]) dX11_look_182 rfl (by rfl) (by decide) rfl ?_
      refine xt_goto (tgt := 153) dX11_look_185 (by decide) ?_
      exact xt_sub (lv' := [(0, .ref x0), (1, .int x1), (2, .int x2), (3, .int x3), (4, .int (x4 + 1))]) [1, 2, 3, 4, 0] rfl H
def DX11_look_130 (h : Nat) (x0 : Nat) (x1 : Int32) (x2 : Int32) (x3 : Int32) (M : Mem) (Q : Option Value → Mem → Prop) : Prop :=
  ok M x0 13 ∧ ∃ b2 : Nat, mR M x0 115 = some b2 ∧ ok M b2 21 ∧ vp_in x1 (mL M b2) ∧ ((mAI M b2 (x1 : Int32).toNatClampNeg) ≤ x3 → DX11_look_194 h x0 x1 M Q) ∧
  (¬ ((mAI M b2 (x1 : Int32).toNatClampNeg) ≤ x3) → ∃ b4 : Nat, mR M x0 114 = some b4 ∧ ok M b4 21 ∧ vp_in x1 (mL M b4) ∧ (¬ (mAI M b4 (x1 : Int32).toNatClampNeg) = 1 → DX11_look_194 h x0 x1 M Q) ∧
  ((mAI M b4 (x1 : Int32).toNatClampNeg) = 1 → T (h + 1) mdX11_look 153 [(0, .ref x0), (1, .int x1), (2, .int x2), (3, .int x3), (4, .int 0)] [] M Q))
set_option maxRecDepth 20000 in
set_option maxHeartbeats 2000000 in
theorem VX11_look_130 {h : Nat} {x0 : Nat} {x1 : Int32} {x2 : Int32} {x3 : Int32} {M : Mem} {Q : Option Value → Mem → Prop} (H : DX11_look_130 h x0 x1 x2 x3 M Q) : T (h + 1) mdX11_look 130 [(0, .ref x0), (1, .int x1), (2, .int x2), (3, .int x3)] [] M Q := by
  unfold DX11_look_130 at H
  refine xt_iload_n (j := 3) dX11_look_130 rfl rfl ?_
  refine xt_aload_n (j := 0) dX11_look_131 rfl rfl ?_
  obtain ⟨ho1, H⟩ := H
  obtain ⟨b2, hb, H⟩ := H
  refine xt_getR dX11_look_132 (flX11_291 rfl) ft_13_115 ho1.1 ho1.2 hb ?_
  refine xt_iload_n (j := 1) dX11_look_135 rfl rfl ?_
  obtain ⟨ho3, H⟩ := H
  obtain ⟨hi, H⟩ := H
  refine xt_iald dX11_look_136 ho3.1 ho3.2 hi ?_
  refine xt_icmp_ge (tgt := 194) dX11_look_137 (by decide) (fun hc => ?_) (fun hc => ?_)
  · have H := H.1 hc
    exact xt_sub [0, 1] rfl (VX11_look_194 H)
  · have H := H.2 hc
    refine xt_aload_n (j := 0) dX11_look_140 rfl rfl ?_
    obtain ⟨b4, hb, H⟩ := H
    refine xt_getR dX11_look_141 (flX11_288 rfl) ft_13_114 ho1.1 ho1.2 hb ?_
    refine xt_iload_n (j := 1) dX11_look_144 rfl rfl ?_
    obtain ⟨ho5, H⟩ := H
    obtain ⟨hi, H⟩ := H
    refine xt_iald dX11_look_145 ho5.1 ho5.2 hi ?_
    refine xt_iconst (v := 1) dX11_look_146 (by decide) ?_
    refine xt_icmp_ne (tgt := 194) dX11_look_147 (by decide) (fun hc => ?_) (fun hc => ?_)
    · have H := H.1 hc
      exact xt_sub [0, 1] rfl (VX11_look_194 H)
    · have H := H.2 hc
      refine xt_iconst (v := 0) dX11_look_150 (by decide) ?_
      refine xt_istore (lv' := [(4, .int 0), (0, .ref x0), (1, .int x1), (2, .int x2), (3, .int x3)]) dX11_look_151 (by decide) rfl ?_
      exact xt_sub (lv' := [(0, .ref x0), (1, .int x1), (2, .int x2), (3, .int x3), (4, .int 0)]) [1, 2, 3, 4, 0] rfl H
def DX11_look_78 (h : Nat) (x0 : Nat) (x1 : Int32) (x3 : Int32) (s0 : Int32) (s1 : Int32) (M : Mem) (Q : Option Value → Mem → Prop) : Prop :=
  T (h + 1) mdX11_look 46 [(0, .ref x0), (1, .int x1), (2, .int (s0 ||| s1)), (3, .int (x3 + 1))] [] M Q
set_option maxRecDepth 20000 in
set_option maxHeartbeats 2000000 in
theorem VX11_look_78 {h : Nat} {x0 : Nat} {x1 : Int32} {x3 : Int32} {s0 : Int32} {s1 : Int32} {M : Mem} {Q : Option Value → Mem → Prop} (H : DX11_look_78 h x0 x1 x3 s0 s1 M Q) : T (h + 1) mdX11_look 78 [(0, .ref x0), (1, .int x1), (3, .int x3)] [.int s1, .int s0] M Q := by
  unfold DX11_look_78 at H
  refine xt_ior dX11_look_78 ?_
  refine xt_istore_n (lv' := [(2, .int (s0 ||| s1)), (0, .ref x0), (1, .int x1), (3, .int x3)]) dX11_look_79 rfl (by decide) rfl ?_
  refine xt_iinc (j := 3) (v := x3 + 1) (lv' := [(3, .int (x3 + 1)), (2, .int (s0 ||| s1)), (0, .ref x0), (1, .int x1)]) dX11_look_80 rfl (by rfl) (by decide) rfl ?_
  refine xt_goto (tgt := 46) dX11_look_83 (by decide) ?_
  exact xt_sub (lv' := [(0, .ref x0), (1, .int x1), (2, .int (s0 ||| s1)), (3, .int (x3 + 1))]) [2, 3, 1, 0] rfl H
def DX11_look_46 (h : Nat) (x0 : Nat) (x1 : Int32) (x2 : Int32) (x3 : Int32) (M : Mem) (Q : Option Value → Mem → Prop) : Prop :=
  ok M x0 13 ∧ ∃ b2 : Nat, mR M x0 8 = some b2 ∧ ok M b2 21 ∧ vp_in x1 (mL M b2) ∧ ((mAI M b2 (x1 : Int32).toNatClampNeg) ≤ x3 → ∀ M4 : Mem, M4 = wI M x0 84 x1 →
  ∃ b5 : Nat, mR M4 x0 115 = some b5 ∧ ok M4 b5 21 ∧ vp_in x1 (mL M4 b5) ∧ ∀ M7 : Mem, M7 = wAI M4 b5 (x1 : Int32).toNatClampNeg 1 →
  ∃ b8 : Nat, mR M7 x0 116 = some b8 ∧ ok M7 b8 21 ∧ vp_in (48 * x1) (mL M7 b8) ∧ ∀ M10 : Mem, M10 = wAI M7 b8 (48 * x1 : Int32).toNatClampNeg 0 →
  ∃ b11 : Nat, mR M10 x0 117 = some b11 ∧ ok M10 b11 21 ∧ vp_in (48 * x1) (mL M10 b11) ∧ ∀ M13 : Mem, M13 = wAI M10 b11 (48 * x1 : Int32).toNatClampNeg 0 →
  ∃ b14 : Nat, mR M13 x0 118 = some b14 ∧ ok M13 b14 21 ∧ vp_in (48 * x1) (mL M13 b14) ∧ ∀ M16 : Mem, M16 = wAI M13 b14 (48 * x1 : Int32).toNatClampNeg (-1) →
  T (h + 1) mdX11_look 130 [(0, .ref x0), (1, .int x1), (2, .int x2), (3, .int 0)] [] M16 Q) ∧
  (¬ ((mAI M b2 (x1 : Int32).toNatClampNeg) ≤ x3) → ∃ b17 : Nat, mR M x0 14 = some b17 ∧ ok M b17 22 ∧ vp_in ((16 * x1) + x3) (mL M b17) ∧ ((mAI M b17 ((16 * x1) + x3 : Int32).toNatClampNeg) = 0 → DX11_look_78 h x0 x1 x3 x2 0 M Q) ∧
  (¬ ((mAI M b17 ((16 * x1) + x3 : Int32).toNatClampNeg) = 0) → DX11_look_78 h x0 x1 x3 x2 ((1 : Int32) <<< (x3 &&& 31)) M Q))
set_option maxRecDepth 20000 in
set_option maxHeartbeats 2000000 in
theorem VX11_look_46 {h : Nat} {x0 : Nat} {x1 : Int32} {x2 : Int32} {x3 : Int32} {M : Mem} {Q : Option Value → Mem → Prop} (H : DX11_look_46 h x0 x1 x2 x3 M Q) : T (h + 1) mdX11_look 46 [(0, .ref x0), (1, .int x1), (2, .int x2), (3, .int x3)] [] M Q := by
  unfold DX11_look_46 at H
  refine xt_iload_n (j := 3) dX11_look_46 rfl rfl ?_
  refine xt_aload_n (j := 0) dX11_look_47 rfl rfl ?_
  obtain ⟨ho1, H⟩ := H
  obtain ⟨b2, hb, H⟩ := H
  refine xt_getR dX11_look_48 (flX11_23 rfl) ft_13_8 ho1.1 ho1.2 hb ?_
  refine xt_iload_n (j := 1) dX11_look_51 rfl rfl ?_
  obtain ⟨ho3, H⟩ := H
  obtain ⟨hi, H⟩ := H
  refine xt_iald dX11_look_52 ho3.1 ho3.2 hi ?_
  refine xt_icmp_ge (tgt := 86) dX11_look_53 (by decide) (fun hc => ?_) (fun hc => ?_)
  · have H := H.1 hc
    refine xt_aload_n (j := 0) dX11_look_86 rfl rfl ?_
    refine xt_iload_n (j := 1) dX11_look_87 rfl rfl ?_
    obtain ⟨M4, eM4⟩ : ∃ z, z = wI M x0 84 x1 := ⟨_, rfl⟩
    have H := H _ eM4
    refine xt_putI dX11_look_88 (flX11_742 rfl) ty_13_84 rfl ho1.1 ho1.2 ?_
    have ho1 : ok M4 x0 13 := by rw [eM4]; exact ho1
    rw [← eM4]
    refine xt_aload_n (j := 0) dX11_look_91 rfl rfl ?_
    obtain ⟨b5, hb, H⟩ := H
    refine xt_getR dX11_look_92 (flX11_291 rfl) ft_13_115 ho1.1 ho1.2 hb ?_
    refine xt_iload_n (j := 1) dX11_look_95 rfl rfl ?_
    refine xt_iconst (v := 1) dX11_look_96 (by decide) ?_
    obtain ⟨ho6, H⟩ := H
    obtain ⟨hi, H⟩ := H
    obtain ⟨M7, eM7⟩ : ∃ z, z = wAI M4 b5 (x1 : Int32).toNatClampNeg 1 := ⟨_, rfl⟩
    have H := H _ eM7
    refine xt_iast dX11_look_97 ho6.1 ho6.2 hi ?_
    have ho1 : ok M7 x0 13 := by rw [eM7]; exact ho1
    rw [← eM7]
    refine xt_aload_n (j := 0) dX11_look_98 rfl rfl ?_
    obtain ⟨b8, hb, H⟩ := H
    refine xt_getR dX11_look_99 (flX11_294 rfl) ft_13_116 ho1.1 ho1.2 hb ?_
    refine xt_bipush (v := 48) dX11_look_102 (by decide) ?_
    refine xt_iload_n (j := 1) dX11_look_104 rfl rfl ?_
    refine xt_imul dX11_look_105 ?_
    refine xt_iconst (v := 0) dX11_look_106 (by decide) ?_
    obtain ⟨ho9, H⟩ := H
    obtain ⟨hi, H⟩ := H
    obtain ⟨M10, eM10⟩ : ∃ z, z = wAI M7 b8 (48 * x1 : Int32).toNatClampNeg 0 := ⟨_, rfl⟩
    have H := H _ eM10
    refine xt_iast dX11_look_107 ho9.1 ho9.2 hi ?_
    have ho1 : ok M10 x0 13 := by rw [eM10]; exact ho1
    rw [← eM10]
    refine xt_aload_n (j := 0) dX11_look_108 rfl rfl ?_
    obtain ⟨b11, hb, H⟩ := H
    refine xt_getR dX11_look_109 (flX11_297 rfl) ft_13_117 ho1.1 ho1.2 hb ?_
    refine xt_bipush (v := 48) dX11_look_112 (by decide) ?_
    refine xt_iload_n (j := 1) dX11_look_114 rfl rfl ?_
    refine xt_imul dX11_look_115 ?_
    refine xt_iconst (v := 0) dX11_look_116 (by decide) ?_
    obtain ⟨ho12, H⟩ := H
    obtain ⟨hi, H⟩ := H
    obtain ⟨M13, eM13⟩ : ∃ z, z = wAI M10 b11 (48 * x1 : Int32).toNatClampNeg 0 := ⟨_, rfl⟩
    have H := H _ eM13
    refine xt_iast dX11_look_117 ho12.1 ho12.2 hi ?_
    have ho1 : ok M13 x0 13 := by rw [eM13]; exact ho1
    rw [← eM13]
    refine xt_aload_n (j := 0) dX11_look_118 rfl rfl ?_
    obtain ⟨b14, hb, H⟩ := H
    refine xt_getR dX11_look_119 (flX11_300 rfl) ft_13_118 ho1.1 ho1.2 hb ?_
    refine xt_bipush (v := 48) dX11_look_122 (by decide) ?_
    refine xt_iload_n (j := 1) dX11_look_124 rfl rfl ?_
    refine xt_imul dX11_look_125 ?_
    refine xt_iconst (v := -1) dX11_look_126 (by decide) ?_
    obtain ⟨ho15, H⟩ := H
    obtain ⟨hi, H⟩ := H
    obtain ⟨M16, eM16⟩ : ∃ z, z = wAI M13 b14 (48 * x1 : Int32).toNatClampNeg (-1) := ⟨_, rfl⟩
    have H := H _ eM16
    refine xt_iast dX11_look_127 ho15.1 ho15.2 hi ?_
    have ho1 : ok M16 x0 13 := by rw [eM16]; exact ho1
    rw [← eM16]
    refine xt_iconst (v := 0) dX11_look_128 (by decide) ?_
    refine xt_istore_n (lv' := [(3, .int 0), (0, .ref x0), (1, .int x1), (2, .int x2)]) dX11_look_129 rfl (by decide) rfl ?_
    exact xt_sub (lv' := [(0, .ref x0), (1, .int x1), (2, .int x2), (3, .int 0)]) [1, 2, 3, 0] rfl H
  · have H := H.2 hc
    refine xt_iload_n (j := 2) dX11_look_56 rfl rfl ?_
    refine xt_aload_n (j := 0) dX11_look_57 rfl rfl ?_
    obtain ⟨b17, hb, H⟩ := H
    refine xt_getR dX11_look_58 (flX11_41 rfl) ft_13_14 ho1.1 ho1.2 hb ?_
    refine xt_bipush (v := 16) dX11_look_61 (by decide) ?_
    refine xt_iload_n (j := 1) dX11_look_63 rfl rfl ?_
    refine xt_imul dX11_look_64 ?_
    refine xt_iload_n (j := 3) dX11_look_65 rfl rfl ?_
    refine xt_iadd dX11_look_66 ?_
    obtain ⟨ho18, H⟩ := H
    obtain ⟨hi, H⟩ := H
    refine xt_zald dX11_look_67 ho18.1 ho18.2 hi ?_
    refine xt_if_eq (tgt := 77) dX11_look_68 (by decide) (fun hc => ?_) (fun hc => ?_)
    · have H := H.1 hc
      refine xt_iconst (v := 0) dX11_look_77 (by decide) ?_
      exact xt_sub [0, 1, 3] rfl (VX11_look_78 H)
    · have H := H.2 hc
      refine xt_iconst (v := 1) dX11_look_71 (by decide) ?_
      refine xt_iload_n (j := 3) dX11_look_72 rfl rfl ?_
      refine xt_ishl dX11_look_73 ?_
      refine xt_goto (tgt := 78) dX11_look_74 (by decide) ?_
      exact xt_sub [0, 1, 3] rfl (VX11_look_78 H)
def DX11_look_0 (h : Nat) (x0 : Nat) (x1 : Int32) (M : Mem) (Q : Option Value → Mem → Prop) : Prop :=
  ok M x0 13 ∧ ∃ b2 : Nat, mR M x0 114 = some b2 ∧ ok M b2 21 ∧ vp_in x1 (mL M b2) ∧ ((mAI M b2 (x1 : Int32).toNatClampNeg) ≤ 0 → ∃ b4 : Nat, mR M x0 114 = some b4 ∧ ok M b4 21 ∧ vp_in x1 (mL M b4) ∧ ∀ M6 : Mem, M6 = wAI M b4 (x1 : Int32).toNatClampNeg 1 →
  ∃ b7 : Nat, mR M6 x0 9 = some b7 ∧ ok M6 b7 21 ∧ vp_in x1 (mL M6 b7) ∧ ∃ b9 : Nat, mR M6 x0 36 = some b9 ∧ ok M6 b9 21 ∧ vp_in x1 (mL M6 b9) ∧ (((mAI M6 b7 (x1 : Int32).toNatClampNeg) + (mAI M6 b9 (x1 : Int32).toNatClampNeg)) ≤ 5 → T (h + 1) mdX11_look 46 [(0, .ref x0), (1, .int x1), (2, .int 0), (3, .int 0)] [] M6 Q) ∧
  (¬ (((mAI M6 b7 (x1 : Int32).toNatClampNeg) + (mAI M6 b9 (x1 : Int32).toNatClampNeg)) ≤ 5) → ∃ b11 : Nat, mR M6 x0 114 = some b11 ∧ ok M6 b11 21 ∧ vp_in x1 (mL M6 b11) ∧ ∀ M13 : Mem, M13 = wAI M6 b11 (x1 : Int32).toNatClampNeg 2 →
  Q none M13)) ∧
  (¬ ((mAI M b2 (x1 : Int32).toNatClampNeg) ≤ 0) → Q none M)
set_option maxRecDepth 20000 in
set_option maxHeartbeats 2000000 in
theorem VX11_look_0 {h : Nat} {x0 : Nat} {x1 : Int32} {M : Mem} {Q : Option Value → Mem → Prop} (H : DX11_look_0 h x0 x1 M Q) : T (h + 1) mdX11_look 0 [(0, .ref x0), (1, .int x1)] [] M Q := by
  unfold DX11_look_0 at H
  refine xt_aload_n (j := 0) dX11_look_0 rfl rfl ?_
  obtain ⟨ho1, H⟩ := H
  obtain ⟨b2, hb, H⟩ := H
  refine xt_getR dX11_look_1 (flX11_288 rfl) ft_13_114 ho1.1 ho1.2 hb ?_
  refine xt_iload_n (j := 1) dX11_look_4 rfl rfl ?_
  obtain ⟨ho3, H⟩ := H
  obtain ⟨hi, H⟩ := H
  refine xt_iald dX11_look_5 ho3.1 ho3.2 hi ?_
  refine xt_if_le (tgt := 10) dX11_look_6 (by decide) (fun hc => ?_) (fun hc => ?_)
  · have H := H.1 hc
    refine xt_aload_n (j := 0) dX11_look_10 rfl rfl ?_
    obtain ⟨b4, hb, H⟩ := H
    refine xt_getR dX11_look_11 (flX11_288 rfl) ft_13_114 ho1.1 ho1.2 hb ?_
    refine xt_iload_n (j := 1) dX11_look_14 rfl rfl ?_
    refine xt_iconst (v := 1) dX11_look_15 (by decide) ?_
    obtain ⟨ho5, H⟩ := H
    obtain ⟨hi, H⟩ := H
    obtain ⟨M6, eM6⟩ : ∃ z, z = wAI M b4 (x1 : Int32).toNatClampNeg 1 := ⟨_, rfl⟩
    have H := H _ eM6
    refine xt_iast dX11_look_16 ho5.1 ho5.2 hi ?_
    have ho1 : ok M6 x0 13 := by rw [eM6]; exact ho1
    rw [← eM6]
    refine xt_aload_n (j := 0) dX11_look_17 rfl rfl ?_
    obtain ⟨b7, hb, H⟩ := H
    refine xt_getR dX11_look_18 (flX11_26 rfl) ft_13_9 ho1.1 ho1.2 hb ?_
    refine xt_iload_n (j := 1) dX11_look_21 rfl rfl ?_
    obtain ⟨ho8, H⟩ := H
    obtain ⟨hi, H⟩ := H
    refine xt_iald dX11_look_22 ho8.1 ho8.2 hi ?_
    refine xt_aload_n (j := 0) dX11_look_23 rfl rfl ?_
    obtain ⟨b9, hb, H⟩ := H
    refine xt_getR dX11_look_24 (flX11_90 rfl) ft_13_36 ho1.1 ho1.2 hb ?_
    refine xt_iload_n (j := 1) dX11_look_27 rfl rfl ?_
    obtain ⟨ho10, H⟩ := H
    obtain ⟨hi, H⟩ := H
    refine xt_iald dX11_look_28 ho10.1 ho10.2 hi ?_
    refine xt_iadd dX11_look_29 ?_
    refine xt_iconst (v := 5) dX11_look_30 (by decide) ?_
    refine xt_icmp_le (tgt := 42) dX11_look_31 (by decide) (fun hc => ?_) (fun hc => ?_)
    · have H := H.1 hc
      refine xt_iconst (v := 0) dX11_look_42 (by decide) ?_
      refine xt_istore_n (lv' := [(2, .int 0), (0, .ref x0), (1, .int x1)]) dX11_look_43 rfl (by decide) rfl ?_
      refine xt_iconst (v := 0) dX11_look_44 (by decide) ?_
      refine xt_istore_n (lv' := [(3, .int 0), (2, .int 0), (0, .ref x0), (1, .int x1)]) dX11_look_45 rfl (by decide) rfl ?_
      exact xt_sub (lv' := [(0, .ref x0), (1, .int x1), (2, .int 0), (3, .int 0)]) [2, 3, 1, 0] rfl H
    · have H := H.2 hc
      refine xt_aload_n (j := 0) dX11_look_34 rfl rfl ?_
      obtain ⟨b11, hb, H⟩ := H
      refine xt_getR dX11_look_35 (flX11_288 rfl) ft_13_114 ho1.1 ho1.2 hb ?_
      refine xt_iload_n (j := 1) dX11_look_38 rfl rfl ?_
      refine xt_iconst (v := 2) dX11_look_39 (by decide) ?_
      obtain ⟨ho12, H⟩ := H
      obtain ⟨hi, H⟩ := H
      obtain ⟨M13, eM13⟩ : ∃ z, z = wAI M6 b11 (x1 : Int32).toNatClampNeg 2 := ⟨_, rfl⟩
      have H := H _ eM13
      refine xt_iast dX11_look_40 ho12.1 ho12.2 hi ?_
      have ho1 : ok M13 x0 13 := by rw [eM13]; exact ho1
      rw [← eM13]
      exact xt_return dX11_look_41 rfl H
  · have H := H.2 hc
    exact xt_return dX11_look_9 rfl H
theorem KX11_look {h : Nat} {x0 : Nat} {x1 : Int32} {M : Mem} {Q : Option Value → Mem → Prop} (H : DX11_look_0 h x0 x1 M Q) : E (h + 1) mdX11_look [.ref x0, .int x1] M Q := E.of (by decide) (Nat.le_of_ble_eq_true rfl) (fun _ _ _ => trivial) (VX11_look_0 H)
def DX11_move1_277 (h : Nat) (x0 : Nat) (x5 : Int32) (x7 : Int32) (M : Mem) (Q : Option Value → Mem → Prop) : Prop :=
  ok M x0 13 ∧ ∃ b2 : Nat, mR M x0 121 = some b2 ∧ ok M b2 21 ∧ vp_in x5 (mL M b2) ∧ ∀ M4 : Mem, M4 = wAI M b2 (x5 : Int32).toNatClampNeg x7 →
  Q none M4
set_option maxRecDepth 20000 in
set_option maxHeartbeats 2000000 in
theorem VX11_move1_277 {h : Nat} {x0 : Nat} {x5 : Int32} {x7 : Int32} {M : Mem} {Q : Option Value → Mem → Prop} (H : DX11_move1_277 h x0 x5 x7 M Q) : T (h + 1) mdX11_move1 277 [(0, .ref x0), (5, .int x5), (7, .int x7)] [] M Q := by
  unfold DX11_move1_277 at H
  refine xt_aload_n (j := 0) dX11_move1_277 rfl rfl ?_
  obtain ⟨ho1, H⟩ := H
  obtain ⟨b2, hb, H⟩ := H
  refine xt_getR dX11_move1_278 (flX11_309 rfl) ft_13_121 ho1.1 ho1.2 hb ?_
  refine xt_iload (j := 1) dX11_move1_281 rfl ?_
  refine xt_iload (j := 2) dX11_move1_283 rfl ?_
  obtain ⟨ho3, H⟩ := H
  obtain ⟨hi, H⟩ := H
  obtain ⟨M4, eM4⟩ : ∃ z, z = wAI M b2 (x5 : Int32).toNatClampNeg x7 := ⟨_, rfl⟩
  have H := H _ eM4
  refine xt_iast dX11_move1_285 ho3.1 ho3.2 hi ?_
  have ho1 : ok M4 x0 13 := by rw [eM4]; exact ho1
  rw [← eM4]
  exact xt_return dX11_move1_286 rfl H
def DX11_move1_81 (h : Nat) (x0 : Nat) (x1 : Int32) (x2 : Int32) (x3 : Int32) (x4 : Int32) (x5 : Int32) (s0 : Nat) (s1 : Int32) (M : Mem) (Q : Option Value → Mem → Prop) : Prop :=
  ok M s0 13 ∧ (s1 = 0 ∨ s1 = 1) ∧ ∀ M2 : Mem, M2 = wI M s0 89 s1 →
  ok M2 x0 13 ∧ E h mdX11_solve [.ref x0] M2 (fun r M4 => mE M2 M4 → ∃ r5 : Int32, r = some (.int r5) ∧ (¬ r5 = 0 → ∃ b6 : Nat, mR M4 x0 122 = some b6 ∧ E h mdX11_presentNow [.ref x0] M4 (fun r M7 => mE M4 M7 → ∃ r8 : Int32, r = some (.int r8) ∧ ok M7 b6 21 ∧ vp_in x5 (mL M7 b6) ∧ ∀ M10 : Mem, M10 = wAI M7 b6 (x5 : Int32).toNatClampNeg r8 →
  ∃ b11 : Nat, mR M10 x0 73 = some b11 ∧ ok M10 b11 21 ∧ vp_in (mI M10 x0 84) (mL M10 b11) ∧ E h mdX11_k [.ref x0, .int (mAI M10 b11 (mI M10 x0 84 : Int32).toNatClampNeg), .int 0] M10 (fun r M13 => mE M10 M13 → ∃ r14 : Int32, r = some (.int r14) ∧ (¬ r14 = 1 → E h mdX11_setNow [.ref x0] M13 (fun r M15 => mE M13 M15 → ∃ r16 : Int32, r = some (.int r16) ∧ ∃ b17 : Nat, mR M15 x0 122 = some b17 ∧ ok M15 b17 21 ∧ vp_in x5 (mL M15 b17) ∧ E h mdX11_stateOf [.ref x0, .int x1, .int r16, .int ((mAI M15 b17 (x5 : Int32).toNatClampNeg) &&& x4)] M15 (fun r M19 => mE M15 M19 → ∃ r20 : Int32, r = some (.int r20) ∧ (¬ r20 = (-1) → DX11_move1_277 h x0 x5 r20 M19 Q) ∧
  (r20 = (-1) → ∃ b21 : Nat, mR M19 x0 115 = some b21 ∧ ok M19 b21 21 ∧ vp_in x1 (mL M19 b21) ∧ (¬ (mAI M19 b21 (x1 : Int32).toNatClampNeg) = 48 → ∃ b23 : Nat, mR M19 x0 115 = some b23 ∧ ok M19 b23 21 ∧ vp_in x1 (mL M19 b23) ∧ ∃ b25 : Nat, mR M19 x0 115 = some b25 ∧ ok M19 b25 21 ∧ vp_in x1 (mL M19 b25) ∧ vp_in x1 (mL M19 b25) ∧ ∀ M27 : Mem, M27 = wAI M19 b25 (x1 : Int32).toNatClampNeg ((mAI M19 b25 (x1 : Int32).toNatClampNeg) + 1) →
  ∃ b28 : Nat, mR M27 x0 116 = some b28 ∧ ok M27 b28 21 ∧ vp_in ((48 * x1) + (mAI M19 b23 (x1 : Int32).toNatClampNeg)) (mL M27 b28) ∧ ∀ M30 : Mem, M30 = wAI M27 b28 ((48 * x1) + (mAI M19 b23 (x1 : Int32).toNatClampNeg) : Int32).toNatClampNeg r16 →
  ∃ b31 : Nat, mR M30 x0 117 = some b31 ∧ ∃ b32 : Nat, mR M30 x0 122 = some b32 ∧ ok M30 b32 21 ∧ vp_in x5 (mL M30 b32) ∧ ok M30 b31 21 ∧ vp_in ((48 * x1) + (mAI M19 b23 (x1 : Int32).toNatClampNeg)) (mL M30 b31) ∧ ∀ M35 : Mem, M35 = wAI M30 b31 ((48 * x1) + (mAI M19 b23 (x1 : Int32).toNatClampNeg) : Int32).toNatClampNeg ((mAI M30 b32 (x5 : Int32).toNatClampNeg) &&& x4) →
  ∃ b36 : Nat, mR M35 x0 118 = some b36 ∧ ok M35 b36 21 ∧ vp_in ((48 * x1) + (mAI M19 b23 (x1 : Int32).toNatClampNeg)) (mL M35 b36) ∧ ∀ M38 : Mem, M38 = wAI M35 b36 ((48 * x1) + (mAI M19 b23 (x1 : Int32).toNatClampNeg) : Int32).toNatClampNeg x2 →
  ∃ b39 : Nat, mR M38 x0 119 = some b39 ∧ ok M38 b39 21 ∧ vp_in ((48 * x1) + (mAI M19 b23 (x1 : Int32).toNatClampNeg)) (mL M38 b39) ∧ ∀ M41 : Mem, M41 = wAI M38 b39 ((48 * x1) + (mAI M19 b23 (x1 : Int32).toNatClampNeg) : Int32).toNatClampNeg x3 →
  DX11_move1_277 h x0 x5 (mAI M19 b23 (x1 : Int32).toNatClampNeg) M41 Q) ∧
  ((mAI M19 b21 (x1 : Int32).toNatClampNeg) = 48 → ∃ b42 : Nat, mR M19 x0 114 = some b42 ∧ ok M19 b42 21 ∧ vp_in x1 (mL M19 b42) ∧ ∀ M44 : Mem, M44 = wAI M19 b42 (x1 : Int32).toNatClampNeg 2 →
  Q none M44))))) ∧
  (r14 = 1 → ∃ b45 : Nat, mR M13 x0 121 = some b45 ∧ ok M13 b45 21 ∧ vp_in x5 (mL M13 b45) ∧ ∀ M47 : Mem, M47 = wAI M13 b45 (x5 : Int32).toNatClampNeg (-1) →
  Q none M47)))) ∧
  (r5 = 0 → ∃ b48 : Nat, mR M4 x0 121 = some b48 ∧ ok M4 b48 21 ∧ vp_in x5 (mL M4 b48) ∧ ∀ M50 : Mem, M50 = wAI M4 b48 (x5 : Int32).toNatClampNeg (-2) →
  ∃ b51 : Nat, mR M50 x0 122 = some b51 ∧ ok M50 b51 21 ∧ vp_in x5 (mL M50 b51) ∧ ∀ M53 : Mem, M53 = wAI M50 b51 (x5 : Int32).toNatClampNeg 0 →
  Q none M53))
set_option maxRecDepth 20000 in
set_option maxHeartbeats 2000000 in
theorem VX11_move1_81 {h : Nat} {x0 : Nat} {x1 : Int32} {x2 : Int32} {x3 : Int32} {x4 : Int32} {x5 : Int32} {s0 : Nat} {s1 : Int32} {M : Mem} {Q : Option Value → Mem → Prop} (H : DX11_move1_81 h x0 x1 x2 x3 x4 x5 s0 s1 M Q) : T (h + 1) mdX11_move1 81 [(0, .ref x0), (1, .int x1), (2, .int x2), (3, .int x3), (4, .int x4), (5, .int x5)] [.int s1, .ref s0] M Q := by
  unfold DX11_move1_81 at H
  obtain ⟨ho1, H⟩ := H
  obtain ⟨hz, H⟩ := H
  obtain ⟨M2, eM2⟩ : ∃ z, z = wI M s0 89 s1 := ⟨_, rfl⟩
  have H := H _ eM2
  refine xt_putZ dX11_move1_81 (flX11_752 rfl) ty_13_89 rfl ho1.1 ho1.2 hz ?_
  rw [← eM2]
  refine xt_aload_n (j := 0) dX11_move1_84 rfl rfl ?_
  obtain ⟨ho3, H⟩ := H
  refine xt_callV (h2 := h) (as := []) (st := []) dX11_move1_85 (mlX11_826 rfl) rfl ho3.1 ⟨by rw [ho3.2]; rfl, by rw [ho3.2]; decide⟩ (by first | decide | (simp [Value.category]; done)) (Nat.le_refl _) H (fun r M4 HH hE => ?_)
  obtain ⟨r5, hr, H⟩ := HH hE
  subst hr
  have ho3 := ok_E ho3 hE
  show T _ _ _ _ [.int r5] _ _
  refine xt_if_ne (tgt := 109) dX11_move1_88 (by decide) (fun hc => ?_) (fun hc => ?_)
  · have H := H.1 hc
    refine xt_aload_n (j := 0) dX11_move1_109 rfl rfl ?_
    obtain ⟨b6, hb, H⟩ := H
    refine xt_getR dX11_move1_110 (flX11_312 rfl) ft_13_122 ho3.1 ho3.2 hb ?_
    refine xt_iload (j := 5) dX11_move1_113 rfl ?_
    refine xt_aload_n (j := 0) dX11_move1_115 rfl rfl ?_
    refine xt_callV (h2 := h) (as := []) (st := [.int x5, .ref b6]) dX11_move1_116 (mlX11_835 rfl) rfl ho3.1 ⟨by rw [ho3.2]; rfl, by rw [ho3.2]; decide⟩ (by first | decide | (simp [Value.category]; done)) (Nat.le_refl _) H (fun r M7 HH hE => ?_)
    obtain ⟨r8, hr, H⟩ := HH hE
    subst hr
    have ho3 := ok_E ho3 hE
    show T _ _ _ _ [.int r8, .int x5, .ref b6] _ _
    obtain ⟨ho9, H⟩ := H
    obtain ⟨hi, H⟩ := H
    obtain ⟨M10, eM10⟩ : ∃ z, z = wAI M7 b6 (x5 : Int32).toNatClampNeg r8 := ⟨_, rfl⟩
    have H := H _ eM10
    refine xt_iast dX11_move1_119 ho9.1 ho9.2 hi ?_
    have ho3 : ok M10 x0 13 := by rw [eM10]; exact ho3
    rw [← eM10]
    refine xt_aload_n (j := 0) dX11_move1_120 rfl rfl ?_
    refine xt_aload_n (j := 0) dX11_move1_121 rfl rfl ?_
    obtain ⟨b11, hb, H⟩ := H
    refine xt_getR dX11_move1_122 (flX11_195 rfl) ft_13_73 ho3.1 ho3.2 hb ?_
    refine xt_aload_n (j := 0) dX11_move1_125 rfl rfl ?_
    refine xt_getI dX11_move1_126 (flX11_742 rfl) ft_13_84 ho3.1 ho3.2 ?_
    obtain ⟨ho12, H⟩ := H
    obtain ⟨hi, H⟩ := H
    refine xt_iald dX11_move1_129 ho12.1 ho12.2 hi ?_
    refine xt_iconst (v := 0) dX11_move1_130 (by decide) ?_
    refine xt_callV (h2 := h) (as := [.int (mAI M10 b11 (mI M10 x0 84 : Int32).toNatClampNeg), .int 0]) (st := []) dX11_move1_131 (mlX11_761 rfl) rfl ho3.1 ⟨by rw [ho3.2]; rfl, by rw [ho3.2]; decide⟩ (by first | decide | (simp [Value.category]; done)) (Nat.le_refl _) H (fun r M13 HH hE => ?_)
    obtain ⟨r14, hr, H⟩ := HH hE
    subst hr
    have ho3 := ok_E ho3 hE
    show T _ _ _ _ [.int r14] _ _
    refine xt_iconst (v := 1) dX11_move1_134 (by decide) ?_
    refine xt_icmp_ne (tgt := 147) dX11_move1_135 (by decide) (fun hc => ?_) (fun hc => ?_)
    · have H := H.1 hc
      refine xt_aload_n (j := 0) dX11_move1_147 rfl rfl ?_
      refine xt_callV (h2 := h) (as := []) (st := []) dX11_move1_148 (mlX11_838 rfl) rfl ho3.1 ⟨by rw [ho3.2]; rfl, by rw [ho3.2]; decide⟩ (by first | decide | (simp [Value.category]; done)) (Nat.le_refl _) H (fun r M15 HH hE => ?_)
      obtain ⟨r16, hr, H⟩ := HH hE
      subst hr
      have ho3 := ok_E ho3 hE
      show T _ _ _ _ [.int r16] _ _
      refine xt_istore (lv' := [(6, .int r16), (0, .ref x0), (1, .int x1), (2, .int x2), (3, .int x3), (4, .int x4), (5, .int x5)]) dX11_move1_151 (by decide) rfl ?_
      refine xt_aload_n (j := 1) dX11_move1_153 rfl rfl ?_
      refine xt_iload_n (j := 2) dX11_move1_154 rfl rfl ?_
      refine xt_iload (j := 0) dX11_move1_155 rfl ?_
      refine xt_aload_n (j := 1) dX11_move1_157 rfl rfl ?_
      obtain ⟨b17, hb, H⟩ := H
      refine xt_getR dX11_move1_158 (flX11_312 rfl) ft_13_122 ho3.1 ho3.2 hb ?_
      refine xt_iload (j := 6) dX11_move1_161 rfl ?_
      obtain ⟨ho18, H⟩ := H
      obtain ⟨hi, H⟩ := H
      refine xt_iald dX11_move1_163 ho18.1 ho18.2 hi ?_
      refine xt_iload (j := 5) dX11_move1_164 rfl ?_
      refine xt_iand dX11_move1_166 ?_
      refine xt_callV (h2 := h) (as := [.int x1, .int r16, .int ((mAI M15 b17 (x5 : Int32).toNatClampNeg) &&& x4)]) (st := []) dX11_move1_167 (mlX11_859 rfl) rfl ho3.1 ⟨by rw [ho3.2]; rfl, by rw [ho3.2]; decide⟩ (by first | decide | (simp [Value.category]; done)) (Nat.le_refl _) H (fun r M19 HH hE => ?_)
      obtain ⟨r20, hr, H⟩ := HH hE
      subst hr
      have ho3 := ok_E ho3 hE
      show T _ _ _ _ [.int r20] _ _
      refine xt_istore (lv' := [(7, .int r20), (6, .int r16), (0, .ref x0), (1, .int x1), (2, .int x2), (3, .int x3), (4, .int x4), (5, .int x5)]) dX11_move1_170 (by decide) rfl ?_
      refine xt_iload (j := 0) dX11_move1_172 rfl ?_
      refine xt_iconst (v := -1) dX11_move1_174 (by decide) ?_
      refine xt_icmp_ne (tgt := 277) dX11_move1_175 (by decide) (fun hc => ?_) (fun hc => ?_)
      · have H := H.1 hc
        exact xt_sub [2, 7, 0] rfl (VX11_move1_277 H)
      · have H := H.2 hc
        refine xt_aload_n (j := 2) dX11_move1_178 rfl rfl ?_
        obtain ⟨b21, hb, H⟩ := H
        refine xt_getR dX11_move1_179 (flX11_291 rfl) ft_13_115 ho3.1 ho3.2 hb ?_
        refine xt_iload_n (j := 3) dX11_move1_182 rfl rfl ?_
        obtain ⟨ho22, H⟩ := H
        obtain ⟨hi, H⟩ := H
        refine xt_iald dX11_move1_183 ho22.1 ho22.2 hi ?_
        refine xt_bipush (v := 48) dX11_move1_184 (by decide) ?_
        refine xt_icmp_ne (tgt := 197) dX11_move1_186 (by decide) (fun hc => ?_) (fun hc => ?_)
        · have H := H.1 hc
          refine xt_aload_n (j := 2) dX11_move1_197 rfl rfl ?_
          obtain ⟨b23, hb, H⟩ := H
          refine xt_getR dX11_move1_198 (flX11_291 rfl) ft_13_115 ho3.1 ho3.2 hb ?_
          refine xt_iload_n (j := 3) dX11_move1_201 rfl rfl ?_
          obtain ⟨ho24, H⟩ := H
          obtain ⟨hi, H⟩ := H
          refine xt_iald dX11_move1_202 ho24.1 ho24.2 hi ?_
          refine xt_istore (lv' := [(7, .int (mAI M19 b23 (x1 : Int32).toNatClampNeg)), (6, .int r16), (0, .ref x0), (1, .int x1), (2, .int x2), (3, .int x3), (4, .int x4), (5, .int x5)]) dX11_move1_203 (by decide) rfl ?_
          refine xt_aload_n (j := 2) dX11_move1_205 rfl rfl ?_
          obtain ⟨b25, hb, H⟩ := H
          refine xt_getR dX11_move1_206 (flX11_291 rfl) ft_13_115 ho3.1 ho3.2 hb ?_
          refine xt_iload_n (j := 3) dX11_move1_209 rfl rfl ?_
          refine xt_dup2 dX11_move1_210 rfl rfl ?_
          obtain ⟨ho26, H⟩ := H
          obtain ⟨hi, H⟩ := H
          refine xt_iald dX11_move1_211 ho26.1 ho26.2 hi ?_
          refine xt_iconst (v := 1) dX11_move1_212 (by decide) ?_
          refine xt_iadd dX11_move1_213 ?_
          obtain ⟨hi, H⟩ := H
          obtain ⟨M27, eM27⟩ : ∃ z, z = wAI M19 b25 (x1 : Int32).toNatClampNeg ((mAI M19 b25 (x1 : Int32).toNatClampNeg) + 1) := ⟨_, rfl⟩
          have H := H _ eM27
          refine xt_iast dX11_move1_214 ho26.1 ho26.2 hi ?_
          have ho3 : ok M27 x0 13 := by rw [eM27]; exact ho3
          rw [← eM27]
          refine xt_aload_n (j := 2) dX11_move1_215 rfl rfl ?_
          obtain ⟨b28, hb, H⟩ := H
          refine xt_getR dX11_move1_216 (flX11_294 rfl) ft_13_116 ho3.1 ho3.2 hb ?_
          refine xt_bipush (v := 48) dX11_move1_219 (by decide) ?_
          refine xt_iload_n (j := 3) dX11_move1_221 rfl rfl ?_
          refine xt_imul dX11_move1_222 ?_
          refine xt_iload (j := 0) dX11_move1_223 rfl ?_
          refine xt_iadd dX11_move1_225 ?_
          refine xt_iload (j := 1) dX11_move1_226 rfl ?_
          obtain ⟨ho29, H⟩ := H
          obtain ⟨hi, H⟩ := H
          obtain ⟨M30, eM30⟩ : ∃ z, z = wAI M27 b28 ((48 * x1) + (mAI M19 b23 (x1 : Int32).toNatClampNeg) : Int32).toNatClampNeg r16 := ⟨_, rfl⟩
          have H := H _ eM30
          refine xt_iast dX11_move1_228 ho29.1 ho29.2 hi ?_
          have ho3 : ok M30 x0 13 := by rw [eM30]; exact ho3
          rw [← eM30]
          refine xt_aload_n (j := 2) dX11_move1_229 rfl rfl ?_
          obtain ⟨b31, hb, H⟩ := H
          refine xt_getR dX11_move1_230 (flX11_297 rfl) ft_13_117 ho3.1 ho3.2 hb ?_
          refine xt_bipush (v := 48) dX11_move1_233 (by decide) ?_
          refine xt_iload_n (j := 3) dX11_move1_235 rfl rfl ?_
          refine xt_imul dX11_move1_236 ?_
          refine xt_iload (j := 0) dX11_move1_237 rfl ?_
          refine xt_iadd dX11_move1_239 ?_
          refine xt_aload_n (j := 2) dX11_move1_240 rfl rfl ?_
          obtain ⟨b32, hb, H⟩ := H
          refine xt_getR dX11_move1_241 (flX11_312 rfl) ft_13_122 ho3.1 ho3.2 hb ?_
          refine xt_iload (j := 7) dX11_move1_244 rfl ?_
          obtain ⟨ho33, H⟩ := H
          obtain ⟨hi, H⟩ := H
          refine xt_iald dX11_move1_246 ho33.1 ho33.2 hi ?_
          refine xt_iload (j := 6) dX11_move1_247 rfl ?_
          refine xt_iand dX11_move1_249 ?_
          obtain ⟨ho34, H⟩ := H
          obtain ⟨hi, H⟩ := H
          obtain ⟨M35, eM35⟩ : ∃ z, z = wAI M30 b31 ((48 * x1) + (mAI M19 b23 (x1 : Int32).toNatClampNeg) : Int32).toNatClampNeg ((mAI M30 b32 (x5 : Int32).toNatClampNeg) &&& x4) := ⟨_, rfl⟩
          have H := H _ eM35
          refine xt_iast dX11_move1_250 ho34.1 ho34.2 hi ?_
          have ho3 : ok M35 x0 13 := by rw [eM35]; exact ho3
          rw [← eM35]
          refine xt_aload_n (j := 2) dX11_move1_251 rfl rfl ?_
          obtain ⟨b36, hb, H⟩ := H
          refine xt_getR dX11_move1_252 (flX11_300 rfl) ft_13_118 ho3.1 ho3.2 hb ?_
          refine xt_bipush (v := 48) dX11_move1_255 (by decide) ?_
          refine xt_iload_n (j := 3) dX11_move1_257 rfl rfl ?_
          refine xt_imul dX11_move1_258 ?_
          refine xt_iload (j := 0) dX11_move1_259 rfl ?_
          refine xt_iadd dX11_move1_261 ?_
          refine xt_iload_n (j := 4) dX11_move1_262 rfl rfl ?_
          obtain ⟨ho37, H⟩ := H
          obtain ⟨hi, H⟩ := H
          obtain ⟨M38, eM38⟩ : ∃ z, z = wAI M35 b36 ((48 * x1) + (mAI M19 b23 (x1 : Int32).toNatClampNeg) : Int32).toNatClampNeg x2 := ⟨_, rfl⟩
          have H := H _ eM38
          refine xt_iast dX11_move1_263 ho37.1 ho37.2 hi ?_
          have ho3 : ok M38 x0 13 := by rw [eM38]; exact ho3
          rw [← eM38]
          refine xt_aload_n (j := 2) dX11_move1_264 rfl rfl ?_
          obtain ⟨b39, hb, H⟩ := H
          refine xt_getR dX11_move1_265 (flX11_303 rfl) ft_13_119 ho3.1 ho3.2 hb ?_
          refine xt_bipush (v := 48) dX11_move1_268 (by decide) ?_
          refine xt_iload_n (j := 3) dX11_move1_270 rfl rfl ?_
          refine xt_imul dX11_move1_271 ?_
          refine xt_iload (j := 0) dX11_move1_272 rfl ?_
          refine xt_iadd dX11_move1_274 ?_
          refine xt_iload_n (j := 5) dX11_move1_275 rfl rfl ?_
          obtain ⟨ho40, H⟩ := H
          obtain ⟨hi, H⟩ := H
          obtain ⟨M41, eM41⟩ : ∃ z, z = wAI M38 b39 ((48 * x1) + (mAI M19 b23 (x1 : Int32).toNatClampNeg) : Int32).toNatClampNeg x3 := ⟨_, rfl⟩
          have H := H _ eM41
          refine xt_iast dX11_move1_276 ho40.1 ho40.2 hi ?_
          have ho3 : ok M41 x0 13 := by rw [eM41]; exact ho3
          rw [← eM41]
          exact xt_sub [2, 7, 0] rfl (VX11_move1_277 H)
        · have H := H.2 hc
          refine xt_aload_n (j := 2) dX11_move1_189 rfl rfl ?_
          obtain ⟨b42, hb, H⟩ := H
          refine xt_getR dX11_move1_190 (flX11_288 rfl) ft_13_114 ho3.1 ho3.2 hb ?_
          refine xt_iload_n (j := 3) dX11_move1_193 rfl rfl ?_
          refine xt_iconst (v := 2) dX11_move1_194 (by decide) ?_
          obtain ⟨ho43, H⟩ := H
          obtain ⟨hi, H⟩ := H
          obtain ⟨M44, eM44⟩ : ∃ z, z = wAI M19 b42 (x1 : Int32).toNatClampNeg 2 := ⟨_, rfl⟩
          have H := H _ eM44
          refine xt_iast dX11_move1_195 ho43.1 ho43.2 hi ?_
          have ho3 : ok M44 x0 13 := by rw [eM44]; exact ho3
          rw [← eM44]
          exact xt_return dX11_move1_196 rfl H
    · have H := H.2 hc
      refine xt_aload_n (j := 0) dX11_move1_138 rfl rfl ?_
      obtain ⟨b45, hb, H⟩ := H
      refine xt_getR dX11_move1_139 (flX11_309 rfl) ft_13_121 ho3.1 ho3.2 hb ?_
      refine xt_iload (j := 5) dX11_move1_142 rfl ?_
      refine xt_iconst (v := -1) dX11_move1_144 (by decide) ?_
      obtain ⟨ho46, H⟩ := H
      obtain ⟨hi, H⟩ := H
      obtain ⟨M47, eM47⟩ : ∃ z, z = wAI M13 b45 (x5 : Int32).toNatClampNeg (-1) := ⟨_, rfl⟩
      have H := H _ eM47
      refine xt_iast dX11_move1_145 ho46.1 ho46.2 hi ?_
      have ho3 : ok M47 x0 13 := by rw [eM47]; exact ho3
      rw [← eM47]
      exact xt_return dX11_move1_146 rfl H
  · have H := H.2 hc
    refine xt_aload_n (j := 0) dX11_move1_91 rfl rfl ?_
    obtain ⟨b48, hb, H⟩ := H
    refine xt_getR dX11_move1_92 (flX11_309 rfl) ft_13_121 ho3.1 ho3.2 hb ?_
    refine xt_iload (j := 5) dX11_move1_95 rfl ?_
    refine xt_bipush (v := -2) dX11_move1_97 (by decide) ?_
    obtain ⟨ho49, H⟩ := H
    obtain ⟨hi, H⟩ := H
    obtain ⟨M50, eM50⟩ : ∃ z, z = wAI M4 b48 (x5 : Int32).toNatClampNeg (-2) := ⟨_, rfl⟩
    have H := H _ eM50
    refine xt_iast dX11_move1_99 ho49.1 ho49.2 hi ?_
    have ho3 : ok M50 x0 13 := by rw [eM50]; exact ho3
    rw [← eM50]
    refine xt_aload_n (j := 0) dX11_move1_100 rfl rfl ?_
    obtain ⟨b51, hb, H⟩ := H
    refine xt_getR dX11_move1_101 (flX11_312 rfl) ft_13_122 ho3.1 ho3.2 hb ?_
    refine xt_iload (j := 5) dX11_move1_104 rfl ?_
    refine xt_iconst (v := 0) dX11_move1_106 (by decide) ?_
    obtain ⟨ho52, H⟩ := H
    obtain ⟨hi, H⟩ := H
    obtain ⟨M53, eM53⟩ : ∃ z, z = wAI M50 b51 (x5 : Int32).toNatClampNeg 0 := ⟨_, rfl⟩
    have H := H _ eM53
    refine xt_iast dX11_move1_107 ho52.1 ho52.2 hi ?_
    have ho3 : ok M53 x0 13 := by rw [eM53]; exact ho3
    rw [← eM53]
    exact xt_return dX11_move1_108 rfl H
def DX11_move1_0 (h : Nat) (x0 : Nat) (x1 : Int32) (x2 : Int32) (x3 : Int32) (x4 : Int32) (M : Mem) (Q : Option Value → Mem → Prop) : Prop :=
  ok M x0 13 ∧ ∃ b2 : Nat, mR M x0 116 = some b2 ∧ ok M b2 21 ∧ vp_in ((48 * x1) + x2) (mL M b2) ∧ ∀ M4 : Mem, M4 = wI M x0 85 (mAI M b2 ((48 * x1) + x2 : Int32).toNatClampNeg) →
  ∃ b5 : Nat, mR M4 x0 117 = some b5 ∧ ok M4 b5 21 ∧ vp_in ((48 * x1) + x2) (mL M4 b5) ∧ ∀ M7 : Mem, M7 = wI M4 x0 86 (mAI M4 b5 ((48 * x1) + x2 : Int32).toNatClampNeg) →
  ∃ b8 : Nat, mR M7 x0 9 = some b8 ∧ ok M7 b8 21 ∧ vp_in x1 (mL M7 b8) ∧ ∀ M10 : Mem, M10 = wI M7 x0 87 (x3 &&& (((1 : Int32) <<< ((mAI M7 b8 (x1 : Int32).toNatClampNeg) &&& 31)) - 1)) →
  ∃ b11 : Nat, mR M10 x0 9 = some b11 ∧ ok M10 b11 21 ∧ vp_in x1 (mL M10 b11) ∧ ∀ M13 : Mem, M13 = wI M10 x0 88 (x3 >>> ((mAI M10 b11 (x1 : Int32).toNatClampNeg) &&& 31)) →
  (¬ x2 = 0 → DX11_move1_81 h x0 x1 x2 x3 x4 ((32 * ((48 * x1) + x2)) + x3) x0 0 M13 Q) ∧
  (x2 = 0 → DX11_move1_81 h x0 x1 x2 x3 x4 ((32 * ((48 * x1) + x2)) + x3) x0 1 M13 Q)
set_option maxRecDepth 20000 in
set_option maxHeartbeats 2000000 in
theorem VX11_move1_0 {h : Nat} {x0 : Nat} {x1 : Int32} {x2 : Int32} {x3 : Int32} {x4 : Int32} {M : Mem} {Q : Option Value → Mem → Prop} (H : DX11_move1_0 h x0 x1 x2 x3 x4 M Q) : T (h + 1) mdX11_move1 0 [(0, .ref x0), (1, .int x1), (2, .int x2), (3, .int x3), (4, .int x4)] [] M Q := by
  unfold DX11_move1_0 at H
  refine xt_bipush (v := 32) dX11_move1_0 (by decide) ?_
  refine xt_bipush (v := 48) dX11_move1_2 (by decide) ?_
  refine xt_iload_n (j := 1) dX11_move1_4 rfl rfl ?_
  refine xt_imul dX11_move1_5 ?_
  refine xt_iload_n (j := 2) dX11_move1_6 rfl rfl ?_
  refine xt_iadd dX11_move1_7 ?_
  refine xt_imul dX11_move1_8 ?_
  refine xt_iload_n (j := 3) dX11_move1_9 rfl rfl ?_
  refine xt_iadd dX11_move1_10 ?_
  refine xt_istore (lv' := [(5, .int ((32 * ((48 * x1) + x2)) + x3)), (0, .ref x0), (1, .int x1), (2, .int x2), (3, .int x3), (4, .int x4)]) dX11_move1_11 (by decide) rfl ?_
  refine xt_aload_n (j := 1) dX11_move1_13 rfl rfl ?_
  refine xt_aload_n (j := 1) dX11_move1_14 rfl rfl ?_
  obtain ⟨ho1, H⟩ := H
  obtain ⟨b2, hb, H⟩ := H
  refine xt_getR dX11_move1_15 (flX11_294 rfl) ft_13_116 ho1.1 ho1.2 hb ?_
  refine xt_bipush (v := 48) dX11_move1_18 (by decide) ?_
  refine xt_iload_n (j := 2) dX11_move1_20 rfl rfl ?_
  refine xt_imul dX11_move1_21 ?_
  refine xt_iload_n (j := 3) dX11_move1_22 rfl rfl ?_
  refine xt_iadd dX11_move1_23 ?_
  obtain ⟨ho3, H⟩ := H
  obtain ⟨hi, H⟩ := H
  refine xt_iald dX11_move1_24 ho3.1 ho3.2 hi ?_
  obtain ⟨M4, eM4⟩ : ∃ z, z = wI M x0 85 (mAI M b2 ((48 * x1) + x2 : Int32).toNatClampNeg) := ⟨_, rfl⟩
  have H := H _ eM4
  refine xt_putI dX11_move1_25 (flX11_764 rfl) ty_13_85 rfl ho1.1 ho1.2 ?_
  have ho1 : ok M4 x0 13 := by rw [eM4]; exact ho1
  rw [← eM4]
  refine xt_aload_n (j := 1) dX11_move1_28 rfl rfl ?_
  refine xt_aload_n (j := 1) dX11_move1_29 rfl rfl ?_
  obtain ⟨b5, hb, H⟩ := H
  refine xt_getR dX11_move1_30 (flX11_297 rfl) ft_13_117 ho1.1 ho1.2 hb ?_
  refine xt_bipush (v := 48) dX11_move1_33 (by decide) ?_
  refine xt_iload_n (j := 2) dX11_move1_35 rfl rfl ?_
  refine xt_imul dX11_move1_36 ?_
  refine xt_iload_n (j := 3) dX11_move1_37 rfl rfl ?_
  refine xt_iadd dX11_move1_38 ?_
  obtain ⟨ho6, H⟩ := H
  obtain ⟨hi, H⟩ := H
  refine xt_iald dX11_move1_39 ho6.1 ho6.2 hi ?_
  obtain ⟨M7, eM7⟩ : ∃ z, z = wI M4 x0 86 (mAI M4 b5 ((48 * x1) + x2 : Int32).toNatClampNeg) := ⟨_, rfl⟩
  have H := H _ eM7
  refine xt_putI dX11_move1_40 (flX11_730 rfl) ty_13_86 rfl ho1.1 ho1.2 ?_
  have ho1 : ok M7 x0 13 := by rw [eM7]; exact ho1
  rw [← eM7]
  refine xt_aload_n (j := 1) dX11_move1_43 rfl rfl ?_
  refine xt_iload_n (j := 4) dX11_move1_44 rfl rfl ?_
  refine xt_iconst (v := 1) dX11_move1_45 (by decide) ?_
  refine xt_aload_n (j := 1) dX11_move1_46 rfl rfl ?_
  obtain ⟨b8, hb, H⟩ := H
  refine xt_getR dX11_move1_47 (flX11_26 rfl) ft_13_9 ho1.1 ho1.2 hb ?_
  refine xt_iload_n (j := 2) dX11_move1_50 rfl rfl ?_
  obtain ⟨ho9, H⟩ := H
  obtain ⟨hi, H⟩ := H
  refine xt_iald dX11_move1_51 ho9.1 ho9.2 hi ?_
  refine xt_ishl dX11_move1_52 ?_
  refine xt_iconst (v := 1) dX11_move1_53 (by decide) ?_
  refine xt_isub dX11_move1_54 ?_
  refine xt_iand dX11_move1_55 ?_
  obtain ⟨M10, eM10⟩ : ∃ z, z = wI M7 x0 87 (x3 &&& (((1 : Int32) <<< ((mAI M7 b8 (x1 : Int32).toNatClampNeg) &&& 31)) - 1)) := ⟨_, rfl⟩
  have H := H _ eM10
  refine xt_putI dX11_move1_56 (flX11_777 rfl) ty_13_87 rfl ho1.1 ho1.2 ?_
  have ho1 : ok M10 x0 13 := by rw [eM10]; exact ho1
  rw [← eM10]
  refine xt_aload_n (j := 1) dX11_move1_59 rfl rfl ?_
  refine xt_iload_n (j := 4) dX11_move1_60 rfl rfl ?_
  refine xt_aload_n (j := 1) dX11_move1_61 rfl rfl ?_
  obtain ⟨b11, hb, H⟩ := H
  refine xt_getR dX11_move1_62 (flX11_26 rfl) ft_13_9 ho1.1 ho1.2 hb ?_
  refine xt_iload_n (j := 2) dX11_move1_65 rfl rfl ?_
  obtain ⟨ho12, H⟩ := H
  obtain ⟨hi, H⟩ := H
  refine xt_iald dX11_move1_66 ho12.1 ho12.2 hi ?_
  refine xt_ishr dX11_move1_67 ?_
  obtain ⟨M13, eM13⟩ : ∃ z, z = wI M10 x0 88 (x3 >>> ((mAI M10 b11 (x1 : Int32).toNatClampNeg) &&& 31)) := ⟨_, rfl⟩
  have H := H _ eM13
  refine xt_putI dX11_move1_68 (flX11_749 rfl) ty_13_88 rfl ho1.1 ho1.2 ?_
  have ho1 : ok M13 x0 13 := by rw [eM13]; exact ho1
  rw [← eM13]
  refine xt_aload_n (j := 1) dX11_move1_71 rfl rfl ?_
  refine xt_iload_n (j := 3) dX11_move1_72 rfl rfl ?_
  refine xt_if_ne (tgt := 80) dX11_move1_73 (by decide) (fun hc => ?_) (fun hc => ?_)
  · have H := H.1 hc
    refine xt_iconst (v := 0) dX11_move1_80 (by decide) ?_
    exact xt_sub [1, 2, 3, 4, 5, 0] rfl (VX11_move1_81 H)
  · have H := H.2 hc
    refine xt_iconst (v := 1) dX11_move1_76 (by decide) ?_
    refine xt_goto (tgt := 81) dX11_move1_77 (by decide) ?_
    exact xt_sub [1, 2, 3, 4, 5, 0] rfl (VX11_move1_81 H)
theorem KX11_move1 {h : Nat} {x0 : Nat} {x1 : Int32} {x2 : Int32} {x3 : Int32} {x4 : Int32} {M : Mem} {Q : Option Value → Mem → Prop} (H : DX11_move1_0 h x0 x1 x2 x3 x4 M Q) : E (h + 1) mdX11_move1 [.ref x0, .int x1, .int x2, .int x3, .int x4] M Q := E.of (by decide) (Nat.le_of_ble_eq_true rfl) (fun _ _ _ => trivial) (VX11_move1_0 H)
def DX11_areAlike_210 (h : Nat) (x5 : Int32) (M : Mem) (Q : Option Value → Mem → Prop) : Prop :=
  (x5 = 0 ∨ x5 = 1) ∧ Q (some (.int x5)) M
set_option maxRecDepth 20000 in
set_option maxHeartbeats 2000000 in
theorem VX11_areAlike_210 {h : Nat} {x5 : Int32} {M : Mem} {Q : Option Value → Mem → Prop} (H : DX11_areAlike_210 h x5 M Q) : T (h + 1) mdX11_areAlike 210 [(5, .int x5)] [] M Q := by
  unfold DX11_areAlike_210 at H
  refine xt_iload (j := 0) dX11_areAlike_210 rfl ?_
  exact xt_zreturn dX11_areAlike_212 rfl H.1 H.2
def DX11_areAlike_202 (h : Nat) (x0 : Nat) (x1 : Int32) (x2 : Int32) (x3 : Int32) (x4 : Int32) (x6 : Int32) (s0 : Int32) (M : Mem) (Q : Option Value → Mem → Prop) : Prop :=
  T (h + 1) mdX11_areAlike 35 [(0, .ref x0), (1, .int x1), (2, .int x2), (3, .int x3), (4, .int x4), (5, .int s0), (6, .int (x6 + 1))] [] M Q
set_option maxRecDepth 20000 in
set_option maxHeartbeats 2000000 in
theorem VX11_areAlike_202 {h : Nat} {x0 : Nat} {x1 : Int32} {x2 : Int32} {x3 : Int32} {x4 : Int32} {x6 : Int32} {s0 : Int32} {M : Mem} {Q : Option Value → Mem → Prop} (H : DX11_areAlike_202 h x0 x1 x2 x3 x4 x6 s0 M Q) : T (h + 1) mdX11_areAlike 202 [(0, .ref x0), (1, .int x1), (2, .int x2), (3, .int x3), (4, .int x4), (6, .int x6)] [.int s0] M Q := by
  unfold DX11_areAlike_202 at H
  refine xt_istore (lv' := [(5, .int s0), (0, .ref x0), (1, .int x1), (2, .int x2), (3, .int x3), (4, .int x4), (6, .int x6)]) dX11_areAlike_202 (by decide) rfl ?_
  refine xt_iinc (j := 6) (v := x6 + 1) (lv' := [(6, .int (x6 + 1)), (5, .int s0), (0, .ref x0), (1, .int x1), (2, .int x2), (3, .int x3), (4, .int x4)]) dX11_areAlike_204 rfl (by rfl) (by decide) rfl ?_
  refine xt_goto (tgt := 35) dX11_areAlike_207 (by decide) ?_
  exact xt_sub (lv' := [(0, .ref x0), (1, .int x1), (2, .int x2), (3, .int x3), (4, .int x4), (5, .int s0), (6, .int (x6 + 1))]) [2, 3, 4, 5, 6, 1, 0] rfl H
def DX11_areAlike_201 (h : Nat) (x0 : Nat) (x1 : Int32) (x2 : Int32) (x3 : Int32) (x4 : Int32) (x6 : Int32) (M : Mem) (Q : Option Value → Mem → Prop) : Prop :=
  DX11_areAlike_202 h x0 x1 x2 x3 x4 x6 0 M Q
set_option maxRecDepth 20000 in
set_option maxHeartbeats 2000000 in
theorem VX11_areAlike_201 {h : Nat} {x0 : Nat} {x1 : Int32} {x2 : Int32} {x3 : Int32} {x4 : Int32} {x6 : Int32} {M : Mem} {Q : Option Value → Mem → Prop} (H : DX11_areAlike_201 h x0 x1 x2 x3 x4 x6 M Q) : T (h + 1) mdX11_areAlike 201 [(0, .ref x0), (1, .int x1), (2, .int x2), (3, .int x3), (4, .int x4), (6, .int x6)] [] M Q := by
  unfold DX11_areAlike_201 at H
  refine xt_iconst (v := 0) dX11_areAlike_201 (by decide) ?_
  exact xt_sub [0, 1, 2, 3, 4, 5] rfl (VX11_areAlike_202 H)
def DX11_areAlike_174 (h : Nat) (x0 : Nat) (x1 : Int32) (x2 : Int32) (x3 : Int32) (x4 : Int32) (x6 : Int32) (x7 : Int32) (x8 : Int32) (M : Mem) (Q : Option Value → Mem → Prop) : Prop :=
  ok M x0 13 ∧ ∃ b2 : Nat, mR M x0 122 = some b2 ∧ ok M b2 21 ∧ vp_in x7 (mL M b2) ∧ ∃ b4 : Nat, mR M x0 122 = some b4 ∧ ok M b4 21 ∧ vp_in x8 (mL M b4) ∧ (¬ ((mAI M b2 (x7 : Int32).toNatClampNeg) &&& x4) = ((mAI M b4 (x8 : Int32).toNatClampNeg) &&& x4) → DX11_areAlike_201 h x0 x1 x2 x3 x4 x6 M Q) ∧
  (((mAI M b2 (x7 : Int32).toNatClampNeg) &&& x4) = ((mAI M b4 (x8 : Int32).toNatClampNeg) &&& x4) → DX11_areAlike_202 h x0 x1 x2 x3 x4 x6 1 M Q)
set_option maxRecDepth 20000 in
set_option maxHeartbeats 2000000 in
theorem VX11_areAlike_174 {h : Nat} {x0 : Nat} {x1 : Int32} {x2 : Int32} {x3 : Int32} {x4 : Int32} {x6 : Int32} {x7 : Int32} {x8 : Int32} {M : Mem} {Q : Option Value → Mem → Prop} (H : DX11_areAlike_174 h x0 x1 x2 x3 x4 x6 x7 x8 M Q) : T (h + 1) mdX11_areAlike 174 [(0, .ref x0), (1, .int x1), (2, .int x2), (3, .int x3), (4, .int x4), (6, .int x6), (7, .int x7), (8, .int x8)] [] M Q := by
  unfold DX11_areAlike_174 at H
  refine xt_aload_n (j := 0) dX11_areAlike_174 rfl rfl ?_
  obtain ⟨ho1, H⟩ := H
  obtain ⟨b2, hb, H⟩ := H
  refine xt_getR dX11_areAlike_175 (flX11_312 rfl) ft_13_122 ho1.1 ho1.2 hb ?_
  refine xt_iload (j := 6) dX11_areAlike_178 rfl ?_
  obtain ⟨ho3, H⟩ := H
  obtain ⟨hi, H⟩ := H
  refine xt_iald dX11_areAlike_180 ho3.1 ho3.2 hi ?_
  refine xt_iload (j := 4) dX11_areAlike_181 rfl ?_
  refine xt_iand dX11_areAlike_183 ?_
  refine xt_aload_n (j := 0) dX11_areAlike_184 rfl rfl ?_
  obtain ⟨b4, hb, H⟩ := H
  refine xt_getR dX11_areAlike_185 (flX11_312 rfl) ft_13_122 ho1.1 ho1.2 hb ?_
  refine xt_iload (j := 7) dX11_areAlike_188 rfl ?_
  obtain ⟨ho5, H⟩ := H
  obtain ⟨hi, H⟩ := H
  refine xt_iald dX11_areAlike_190 ho5.1 ho5.2 hi ?_
  refine xt_iload (j := 4) dX11_areAlike_191 rfl ?_
  refine xt_iand dX11_areAlike_193 ?_
  refine xt_icmp_ne (tgt := 201) dX11_areAlike_194 (by decide) (fun hc => ?_) (fun hc => ?_)
  · have H := H.1 hc
    exact xt_sub [0, 1, 2, 3, 4, 5] rfl (VX11_areAlike_201 H)
  · have H := H.2 hc
    refine xt_iconst (v := 1) dX11_areAlike_197 (by decide) ?_
    refine xt_goto (tgt := 202) dX11_areAlike_198 (by decide) ?_
    exact xt_sub [0, 1, 2, 3, 4, 5] rfl (VX11_areAlike_202 H)
def DX11_areAlike_140 (h : Nat) (x0 : Nat) (x1 : Int32) (x2 : Int32) (x3 : Int32) (x4 : Int32) (x6 : Int32) (x7 : Int32) (x8 : Int32) (s0 : Int32) (M : Mem) (Q : Option Value → Mem → Prop) : Prop :=
  (¬ s0 = 0 → DX11_areAlike_174 h x0 x1 x2 x3 x4 x6 x7 x8 M Q) ∧
  (s0 = 0 → ok M x0 13 ∧ ∃ b2 : Nat, mR M x0 121 = some b2 ∧ ok M b2 21 ∧ vp_in x7 (mL M b2) ∧ (0 ≤ (mAI M b2 (x7 : Int32).toNatClampNeg) → DX11_areAlike_201 h x0 x1 x2 x3 x4 x6 M Q) ∧
  (¬ (0 ≤ (mAI M b2 (x7 : Int32).toNatClampNeg)) → ∃ b4 : Nat, mR M x0 121 = some b4 ∧ ok M b4 21 ∧ vp_in x7 (mL M b4) ∧ ∃ b6 : Nat, mR M x0 121 = some b6 ∧ ok M b6 21 ∧ vp_in x8 (mL M b6) ∧ (¬ (mAI M b4 (x7 : Int32).toNatClampNeg) = (mAI M b6 (x8 : Int32).toNatClampNeg) → DX11_areAlike_201 h x0 x1 x2 x3 x4 x6 M Q) ∧
  ((mAI M b4 (x7 : Int32).toNatClampNeg) = (mAI M b6 (x8 : Int32).toNatClampNeg) → DX11_areAlike_174 h x0 x1 x2 x3 x4 x6 x7 x8 M Q)))
set_option maxRecDepth 20000 in
set_option maxHeartbeats 2000000 in
theorem VX11_areAlike_140 {h : Nat} {x0 : Nat} {x1 : Int32} {x2 : Int32} {x3 : Int32} {x4 : Int32} {x6 : Int32} {x7 : Int32} {x8 : Int32} {s0 : Int32} {M : Mem} {Q : Option Value → Mem → Prop} (H : DX11_areAlike_140 h x0 x1 x2 x3 x4 x6 x7 x8 s0 M Q) : T (h + 1) mdX11_areAlike 140 [(0, .ref x0), (1, .int x1), (2, .int x2), (3, .int x3), (4, .int x4), (6, .int x6), (7, .int x7), (8, .int x8)] [.int s0] M Q := by
  unfold DX11_areAlike_140 at H
  refine xt_istore (lv' := [(9, .int s0), (0, .ref x0), (1, .int x1), (2, .int x2), (3, .int x3), (4, .int x4), (6, .int x6), (7, .int x7), (8, .int x8)]) dX11_areAlike_140 (by decide) rfl ?_
  refine xt_iload (j := 0) dX11_areAlike_142 rfl ?_
  refine xt_if_ne (tgt := 174) dX11_areAlike_144 (by decide) (fun hc => ?_) (fun hc => ?_)
  · have H := H.1 hc
    exact xt_sub [1, 2, 3, 4, 5, 6, 7, 8] rfl (VX11_areAlike_174 H)
  · have H := H.2 hc
    refine xt_aload_n (j := 1) dX11_areAlike_147 rfl rfl ?_
    obtain ⟨ho1, H⟩ := H
    obtain ⟨b2, hb, H⟩ := H
    refine xt_getR dX11_areAlike_148 (flX11_309 rfl) ft_13_121 ho1.1 ho1.2 hb ?_
    refine xt_iload (j := 7) dX11_areAlike_151 rfl ?_
    obtain ⟨ho3, H⟩ := H
    obtain ⟨hi, H⟩ := H
    refine xt_iald dX11_areAlike_153 ho3.1 ho3.2 hi ?_
    refine xt_if_ge (tgt := 201) dX11_areAlike_154 (by decide) (fun hc => ?_) (fun hc => ?_)
    · have H := H.1 hc
      exact xt_sub [1, 2, 3, 4, 5, 6] rfl (VX11_areAlike_201 H)
    · have H := H.2 hc
      refine xt_aload_n (j := 1) dX11_areAlike_157 rfl rfl ?_
      obtain ⟨b4, hb, H⟩ := H
      refine xt_getR dX11_areAlike_158 (flX11_309 rfl) ft_13_121 ho1.1 ho1.2 hb ?_
      refine xt_iload (j := 7) dX11_areAlike_161 rfl ?_
      obtain ⟨ho5, H⟩ := H
      obtain ⟨hi, H⟩ := H
      refine xt_iald dX11_areAlike_163 ho5.1 ho5.2 hi ?_
      refine xt_aload_n (j := 1) dX11_areAlike_164 rfl rfl ?_
      obtain ⟨b6, hb, H⟩ := H
      refine xt_getR dX11_areAlike_165 (flX11_309 rfl) ft_13_121 ho1.1 ho1.2 hb ?_
      refine xt_iload (j := 8) dX11_areAlike_168 rfl ?_
      obtain ⟨ho7, H⟩ := H
      obtain ⟨hi, H⟩ := H
      refine xt_iald dX11_areAlike_170 ho7.1 ho7.2 hi ?_
      refine xt_icmp_ne (tgt := 201) dX11_areAlike_171 (by decide) (fun hc => ?_) (fun hc => ?_)
      · have H := H.1 hc
        exact xt_sub [1, 2, 3, 4, 5, 6] rfl (VX11_areAlike_201 H)
      · have H := H.2 hc
        exact xt_sub [1, 2, 3, 4, 5, 6, 7, 8] rfl (VX11_areAlike_174 H)
def DX11_areAlike_139 (h : Nat) (x0 : Nat) (x1 : Int32) (x2 : Int32) (x3 : Int32) (x4 : Int32) (x6 : Int32) (x7 : Int32) (x8 : Int32) (M : Mem) (Q : Option Value → Mem → Prop) : Prop :=
  DX11_areAlike_140 h x0 x1 x2 x3 x4 x6 x7 x8 0 M Q
set_option maxRecDepth 20000 in
set_option maxHeartbeats 2000000 in
theorem VX11_areAlike_139 {h : Nat} {x0 : Nat} {x1 : Int32} {x2 : Int32} {x3 : Int32} {x4 : Int32} {x6 : Int32} {x7 : Int32} {x8 : Int32} {M : Mem} {Q : Option Value → Mem → Prop} (H : DX11_areAlike_139 h x0 x1 x2 x3 x4 x6 x7 x8 M Q) : T (h + 1) mdX11_areAlike 139 [(0, .ref x0), (1, .int x1), (2, .int x2), (3, .int x3), (4, .int x4), (6, .int x6), (7, .int x7), (8, .int x8)] [] M Q := by
  unfold DX11_areAlike_139 at H
  refine xt_iconst (v := 0) dX11_areAlike_139 (by decide) ?_
  exact xt_sub [0, 1, 2, 3, 4, 5, 6, 7] rfl (VX11_areAlike_140 H)
def DX11_areAlike_35 (h : Nat) (x0 : Nat) (x1 : Int32) (x2 : Int32) (x3 : Int32) (x4 : Int32) (x5 : Int32) (x6 : Int32) (M : Mem) (Q : Option Value → Mem → Prop) : Prop :=
  ok M x0 13 ∧ E h mdX11_moves [.ref x0, .int x1] M (fun r M2 => mE M M2 → ∃ r3 : Int32, r = some (.int r3) ∧ (r3 ≤ x6 → DX11_areAlike_210 h x5 M2 Q) ∧
  (¬ (r3 ≤ x6) → (x5 = 0 → DX11_areAlike_210 h x5 M2 Q) ∧
  (¬ (x5 = 0) → ∃ b4 : Nat, mR M2 x0 121 = some b4 ∧ ok M2 b4 21 ∧ vp_in ((32 * ((48 * x1) + x2)) + x6) (mL M2 b4) ∧ ((mAI M2 b4 ((32 * ((48 * x1) + x2)) + x6 : Int32).toNatClampNeg) < 0 → DX11_areAlike_139 h x0 x1 x2 x3 x4 x6 ((32 * ((48 * x1) + x2)) + x6) ((32 * ((48 * x1) + x3)) + x6) M2 Q) ∧
  (¬ ((mAI M2 b4 ((32 * ((48 * x1) + x2)) + x6 : Int32).toNatClampNeg) < 0) → ∃ b6 : Nat, mR M2 x0 121 = some b6 ∧ ok M2 b6 21 ∧ vp_in ((32 * ((48 * x1) + x3)) + x6) (mL M2 b6) ∧ ((mAI M2 b6 ((32 * ((48 * x1) + x3)) + x6 : Int32).toNatClampNeg) < 0 → DX11_areAlike_139 h x0 x1 x2 x3 x4 x6 ((32 * ((48 * x1) + x2)) + x6) ((32 * ((48 * x1) + x3)) + x6) M2 Q) ∧
  (¬ ((mAI M2 b6 ((32 * ((48 * x1) + x3)) + x6 : Int32).toNatClampNeg) < 0) → ∃ b8 : Nat, mR M2 x0 120 = some b8 ∧ ∃ b9 : Nat, mR M2 x0 121 = some b9 ∧ ok M2 b9 21 ∧ vp_in ((32 * ((48 * x1) + x2)) + x6) (mL M2 b9) ∧ ok M2 b8 21 ∧ vp_in ((48 * x1) + (mAI M2 b9 ((32 * ((48 * x1) + x2)) + x6 : Int32).toNatClampNeg)) (mL M2 b8) ∧ ∃ b12 : Nat, mR M2 x0 120 = some b12 ∧ ∃ b13 : Nat, mR M2 x0 121 = some b13 ∧ ok M2 b13 21 ∧ vp_in ((32 * ((48 * x1) + x3)) + x6) (mL M2 b13) ∧ ok M2 b12 21 ∧ vp_in ((48 * x1) + (mAI M2 b13 ((32 * ((48 * x1) + x3)) + x6 : Int32).toNatClampNeg)) (mL M2 b12) ∧ (¬ (mAI M2 b8 ((48 * x1) + (mAI M2 b9 ((32 * ((48 * x1) + x2)) + x6 : Int32).toNatClampNeg) : Int32).toNatClampNeg) = (mAI M2 b12 ((48 * x1) + (mAI M2 b13 ((32 * ((48 * x1) + x3)) + x6 : Int32).toNatClampNeg) : Int32).toNatClampNeg) → DX11_areAlike_139 h x0 x1 x2 x3 x4 x6 ((32 * ((48 * x1) + x2)) + x6) ((32 * ((48 * x1) + x3)) + x6) M2 Q) ∧
  ((mAI M2 b8 ((48 * x1) + (mAI M2 b9 ((32 * ((48 * x1) + x2)) + x6 : Int32).toNatClampNeg) : Int32).toNatClampNeg) = (mAI M2 b12 ((48 * x1) + (mAI M2 b13 ((32 * ((48 * x1) + x3)) + x6 : Int32).toNatClampNeg) : Int32).toNatClampNeg) → DX11_areAlike_140 h x0 x1 x2 x3 x4 x6 ((32 * ((48 * x1) + x2)) + x6) ((32 * ((48 * x1) + x3)) + x6) 1 M2 Q))))))
set_option maxRecDepth 20000 in
set_option maxHeartbeats 2000000 in
theorem VX11_areAlike_35 {h : Nat} {x0 : Nat} {x1 : Int32} {x2 : Int32} {x3 : Int32} {x4 : Int32} {x5 : Int32} {x6 : Int32} {M : Mem} {Q : Option Value → Mem → Prop} (H : DX11_areAlike_35 h x0 x1 x2 x3 x4 x5 x6 M Q) : T (h + 1) mdX11_areAlike 35 [(0, .ref x0), (1, .int x1), (2, .int x2), (3, .int x3), (4, .int x4), (5, .int x5), (6, .int x6)] [] M Q := by
  unfold DX11_areAlike_35 at H
  refine xt_iload (j := 6) dX11_areAlike_35 rfl ?_
  refine xt_aload_n (j := 0) dX11_areAlike_37 rfl rfl ?_
  refine xt_iload_n (j := 1) dX11_areAlike_38 rfl rfl ?_
  obtain ⟨ho1, H⟩ := H
  refine xt_callV (h2 := h) (as := [.int x1]) (st := [.int x6]) dX11_areAlike_39 (mlX11_849 rfl) rfl ho1.1 ⟨by rw [ho1.2]; rfl, by rw [ho1.2]; decide⟩ (by first | decide | (simp [Value.category]; done)) (Nat.le_refl _) H (fun r M2 HH hE => ?_)
  obtain ⟨r3, hr, H⟩ := HH hE
  subst hr
  have ho1 := ok_E ho1 hE
  show T _ _ _ _ [.int r3, .int x6] _ _
  refine xt_icmp_ge (tgt := 210) dX11_areAlike_42 (by decide) (fun hc => ?_) (fun hc => ?_)
  · have H := H.1 hc
    exact xt_sub [5] rfl (VX11_areAlike_210 H)
  · have H := H.2 hc
    refine xt_iload (j := 5) dX11_areAlike_45 rfl ?_
    refine xt_if_eq (tgt := 210) dX11_areAlike_47 (by decide) (fun hc => ?_) (fun hc => ?_)
    · have H := H.1 hc
      exact xt_sub [5] rfl (VX11_areAlike_210 H)
    · have H := H.2 hc
      refine xt_bipush (v := 32) dX11_areAlike_50 (by decide) ?_
      refine xt_bipush (v := 48) dX11_areAlike_52 (by decide) ?_
      refine xt_iload_n (j := 1) dX11_areAlike_54 rfl rfl ?_
      refine xt_imul dX11_areAlike_55 ?_
      refine xt_iload_n (j := 2) dX11_areAlike_56 rfl rfl ?_
      refine xt_iadd dX11_areAlike_57 ?_
      refine xt_imul dX11_areAlike_58 ?_
      refine xt_iload (j := 6) dX11_areAlike_59 rfl ?_
      refine xt_iadd dX11_areAlike_61 ?_
      refine xt_istore (lv' := [(7, .int ((32 * ((48 * x1) + x2)) + x6)), (0, .ref x0), (1, .int x1), (2, .int x2), (3, .int x3), (4, .int x4), (5, .int x5), (6, .int x6)]) dX11_areAlike_62 (by decide) rfl ?_
      refine xt_bipush (v := 32) dX11_areAlike_64 (by decide) ?_
      refine xt_bipush (v := 48) dX11_areAlike_66 (by decide) ?_
      refine xt_iload_n (j := 2) dX11_areAlike_68 rfl rfl ?_
      refine xt_imul dX11_areAlike_69 ?_
      refine xt_iload_n (j := 4) dX11_areAlike_70 rfl rfl ?_
      refine xt_iadd dX11_areAlike_71 ?_
      refine xt_imul dX11_areAlike_72 ?_
      refine xt_iload (j := 7) dX11_areAlike_73 rfl ?_
      refine xt_iadd dX11_areAlike_75 ?_
      refine xt_istore (lv' := [(8, .int ((32 * ((48 * x1) + x3)) + x6)), (7, .int ((32 * ((48 * x1) + x2)) + x6)), (0, .ref x0), (1, .int x1), (2, .int x2), (3, .int x3), (4, .int x4), (5, .int x5), (6, .int x6)]) dX11_areAlike_76 (by decide) rfl ?_
      refine xt_aload_n (j := 2) dX11_areAlike_78 rfl rfl ?_
      obtain ⟨b4, hb, H⟩ := H
      refine xt_getR dX11_areAlike_79 (flX11_309 rfl) ft_13_121 ho1.1 ho1.2 hb ?_
      refine xt_iload (j := 1) dX11_areAlike_82 rfl ?_
      obtain ⟨ho5, H⟩ := H
      obtain ⟨hi, H⟩ := H
      refine xt_iald dX11_areAlike_84 ho5.1 ho5.2 hi ?_
      refine xt_if_lt (tgt := 139) dX11_areAlike_85 (by decide) (fun hc => ?_) (fun hc => ?_)
      · have H := H.1 hc
        exact xt_sub [2, 3, 4, 5, 6, 8, 1, 0] rfl (VX11_areAlike_139 H)
      · have H := H.2 hc
        refine xt_aload_n (j := 2) dX11_areAlike_88 rfl rfl ?_
        obtain ⟨b6, hb, H⟩ := H
        refine xt_getR dX11_areAlike_89 (flX11_309 rfl) ft_13_121 ho1.1 ho1.2 hb ?_
        refine xt_iload (j := 0) dX11_areAlike_92 rfl ?_
        obtain ⟨ho7, H⟩ := H
        obtain ⟨hi, H⟩ := H
        refine xt_iald dX11_areAlike_94 ho7.1 ho7.2 hi ?_
        refine xt_if_lt (tgt := 139) dX11_areAlike_95 (by decide) (fun hc => ?_) (fun hc => ?_)
        · have H := H.1 hc
          exact xt_sub [2, 3, 4, 5, 6, 8, 1, 0] rfl (VX11_areAlike_139 H)
        · have H := H.2 hc
          refine xt_aload_n (j := 2) dX11_areAlike_98 rfl rfl ?_
          obtain ⟨b8, hb, H⟩ := H
          refine xt_getR dX11_areAlike_99 (flX11_306 rfl) ft_13_120 ho1.1 ho1.2 hb ?_
          refine xt_bipush (v := 48) dX11_areAlike_102 (by decide) ?_
          refine xt_iload_n (j := 3) dX11_areAlike_104 rfl rfl ?_
          refine xt_imul dX11_areAlike_105 ?_
          refine xt_aload_n (j := 2) dX11_areAlike_106 rfl rfl ?_
          obtain ⟨b9, hb, H⟩ := H
          refine xt_getR dX11_areAlike_107 (flX11_309 rfl) ft_13_121 ho1.1 ho1.2 hb ?_
          refine xt_iload (j := 1) dX11_areAlike_110 rfl ?_
          obtain ⟨ho10, H⟩ := H
          obtain ⟨hi, H⟩ := H
          refine xt_iald dX11_areAlike_112 ho10.1 ho10.2 hi ?_
          refine xt_iadd dX11_areAlike_113 ?_
          obtain ⟨ho11, H⟩ := H
          obtain ⟨hi, H⟩ := H
          refine xt_iald dX11_areAlike_114 ho11.1 ho11.2 hi ?_
          refine xt_aload_n (j := 2) dX11_areAlike_115 rfl rfl ?_
          obtain ⟨b12, hb, H⟩ := H
          refine xt_getR dX11_areAlike_116 (flX11_306 rfl) ft_13_120 ho1.1 ho1.2 hb ?_
          refine xt_bipush (v := 48) dX11_areAlike_119 (by decide) ?_
          refine xt_iload_n (j := 3) dX11_areAlike_121 rfl rfl ?_
          refine xt_imul dX11_areAlike_122 ?_
          refine xt_aload_n (j := 2) dX11_areAlike_123 rfl rfl ?_
          obtain ⟨b13, hb, H⟩ := H
          refine xt_getR dX11_areAlike_124 (flX11_309 rfl) ft_13_121 ho1.1 ho1.2 hb ?_
          refine xt_iload (j := 0) dX11_areAlike_127 rfl ?_
          obtain ⟨ho14, H⟩ := H
          obtain ⟨hi, H⟩ := H
          refine xt_iald dX11_areAlike_129 ho14.1 ho14.2 hi ?_
          refine xt_iadd dX11_areAlike_130 ?_
          obtain ⟨ho15, H⟩ := H
          obtain ⟨hi, H⟩ := H
          refine xt_iald dX11_areAlike_131 ho15.1 ho15.2 hi ?_
          refine xt_icmp_ne (tgt := 139) dX11_areAlike_132 (by decide) (fun hc => ?_) (fun hc => ?_)
          · have H := H.1 hc
            exact xt_sub [2, 3, 4, 5, 6, 8, 1, 0] rfl (VX11_areAlike_139 H)
          · have H := H.2 hc
            refine xt_iconst (v := 1) dX11_areAlike_135 (by decide) ?_
            refine xt_goto (tgt := 140) dX11_areAlike_136 (by decide) ?_
            exact xt_sub [2, 3, 4, 5, 6, 8, 1, 0] rfl (VX11_areAlike_140 H)
def DX11_areAlike_30 (h : Nat) (x0 : Nat) (x1 : Int32) (x2 : Int32) (x3 : Int32) (x4 : Int32) (s0 : Int32) (M : Mem) (Q : Option Value → Mem → Prop) : Prop :=
  T (h + 1) mdX11_areAlike 35 [(0, .ref x0), (1, .int x1), (2, .int x2), (3, .int x3), (4, .int x4), (5, .int s0), (6, .int 0)] [] M Q
set_option maxRecDepth 20000 in
set_option maxHeartbeats 2000000 in
theorem VX11_areAlike_30 {h : Nat} {x0 : Nat} {x1 : Int32} {x2 : Int32} {x3 : Int32} {x4 : Int32} {s0 : Int32} {M : Mem} {Q : Option Value → Mem → Prop} (H : DX11_areAlike_30 h x0 x1 x2 x3 x4 s0 M Q) : T (h + 1) mdX11_areAlike 30 [(0, .ref x0), (1, .int x1), (2, .int x2), (3, .int x3), (4, .int x4)] [.int s0] M Q := by
  unfold DX11_areAlike_30 at H
  refine xt_istore (lv' := [(5, .int s0), (0, .ref x0), (1, .int x1), (2, .int x2), (3, .int x3), (4, .int x4)]) dX11_areAlike_30 (by decide) rfl ?_
  refine xt_iconst (v := 0) dX11_areAlike_32 (by decide) ?_
  refine xt_istore (lv' := [(6, .int 0), (5, .int s0), (0, .ref x0), (1, .int x1), (2, .int x2), (3, .int x3), (4, .int x4)]) dX11_areAlike_33 (by decide) rfl ?_
  exact xt_sub (lv' := [(0, .ref x0), (1, .int x1), (2, .int x2), (3, .int x3), (4, .int x4), (5, .int s0), (6, .int 0)]) [2, 3, 4, 5, 6, 1, 0] rfl H
def DX11_areAlike_0 (h : Nat) (x0 : Nat) (x1 : Int32) (x2 : Int32) (x3 : Int32) (x4 : Int32) (M : Mem) (Q : Option Value → Mem → Prop) : Prop :=
  ok M x0 13 ∧ ∃ b2 : Nat, mR M x0 120 = some b2 ∧ ok M b2 21 ∧ vp_in ((48 * x1) + x2) (mL M b2) ∧ ∃ b4 : Nat, mR M x0 120 = some b4 ∧ ok M b4 21 ∧ vp_in ((48 * x1) + x3) (mL M b4) ∧ (¬ (mAI M b2 ((48 * x1) + x2 : Int32).toNatClampNeg) = (mAI M b4 ((48 * x1) + x3 : Int32).toNatClampNeg) → DX11_areAlike_30 h x0 x1 x2 x3 x4 0 M Q) ∧
  ((mAI M b2 ((48 * x1) + x2 : Int32).toNatClampNeg) = (mAI M b4 ((48 * x1) + x3 : Int32).toNatClampNeg) → DX11_areAlike_30 h x0 x1 x2 x3 x4 1 M Q)
set_option maxRecDepth 20000 in
set_option maxHeartbeats 2000000 in
theorem VX11_areAlike_0 {h : Nat} {x0 : Nat} {x1 : Int32} {x2 : Int32} {x3 : Int32} {x4 : Int32} {M : Mem} {Q : Option Value → Mem → Prop} (H : DX11_areAlike_0 h x0 x1 x2 x3 x4 M Q) : T (h + 1) mdX11_areAlike 0 [(0, .ref x0), (1, .int x1), (2, .int x2), (3, .int x3), (4, .int x4)] [] M Q := by
  unfold DX11_areAlike_0 at H
  refine xt_aload_n (j := 0) dX11_areAlike_0 rfl rfl ?_
  obtain ⟨ho1, H⟩ := H
  obtain ⟨b2, hb, H⟩ := H
  refine xt_getR dX11_areAlike_1 (flX11_306 rfl) ft_13_120 ho1.1 ho1.2 hb ?_
  refine xt_bipush (v := 48) dX11_areAlike_4 (by decide) ?_
  refine xt_iload_n (j := 1) dX11_areAlike_6 rfl rfl ?_
  refine xt_imul dX11_areAlike_7 ?_
  refine xt_iload_n (j := 2) dX11_areAlike_8 rfl rfl ?_
  refine xt_iadd dX11_areAlike_9 ?_
  obtain ⟨ho3, H⟩ := H
  obtain ⟨hi, H⟩ := H
  refine xt_iald dX11_areAlike_10 ho3.1 ho3.2 hi ?_
  refine xt_aload_n (j := 0) dX11_areAlike_11 rfl rfl ?_
  obtain ⟨b4, hb, H⟩ := H
  refine xt_getR dX11_areAlike_12 (flX11_306 rfl) ft_13_120 ho1.1 ho1.2 hb ?_
  refine xt_bipush (v := 48) dX11_areAlike_15 (by decide) ?_
  refine xt_iload_n (j := 1) dX11_areAlike_17 rfl rfl ?_
  refine xt_imul dX11_areAlike_18 ?_
  refine xt_iload_n (j := 3) dX11_areAlike_19 rfl rfl ?_
  refine xt_iadd dX11_areAlike_20 ?_
  obtain ⟨ho5, H⟩ := H
  obtain ⟨hi, H⟩ := H
  refine xt_iald dX11_areAlike_21 ho5.1 ho5.2 hi ?_
  refine xt_icmp_ne (tgt := 29) dX11_areAlike_22 (by decide) (fun hc => ?_) (fun hc => ?_)
  · have H := H.1 hc
    refine xt_iconst (v := 0) dX11_areAlike_29 (by decide) ?_
    exact xt_sub [0, 1, 2, 3, 4] rfl (VX11_areAlike_30 H)
  · have H := H.2 hc
    refine xt_iconst (v := 1) dX11_areAlike_25 (by decide) ?_
    refine xt_goto (tgt := 30) dX11_areAlike_26 (by decide) ?_
    exact xt_sub [0, 1, 2, 3, 4] rfl (VX11_areAlike_30 H)
theorem KX11_areAlike {h : Nat} {x0 : Nat} {x1 : Int32} {x2 : Int32} {x3 : Int32} {x4 : Int32} {M : Mem} {Q : Option Value → Mem → Prop} (H : DX11_areAlike_0 h x0 x1 x2 x3 x4 M Q) : E (h + 1) mdX11_areAlike [.ref x0, .int x1, .int x2, .int x3, .int x4] M Q := E.of (by decide) (Nat.le_of_ble_eq_true rfl) (fun _ _ _ => trivial) (VX11_areAlike_0 H)
def DX11_part1_179 (h : Nat) (x0 : Nat) (x1 : Int32) (x2 : Int32) (x4 : Int32) (s0 : Int32) (M : Mem) (Q : Option Value → Mem → Prop) : Prop :=
  ok M x0 13 ∧ ∃ b2 : Nat, mR M x0 120 = some b2 ∧ ∃ b3 : Nat, mR M x0 125 = some b3 ∧ ok M b3 21 ∧ vp_in x4 (mL M b3) ∧ ok M b2 21 ∧ vp_in ((48 * x1) + x4) (mL M b2) ∧ ∀ M6 : Mem, M6 = wAI M b2 ((48 * x1) + x4 : Int32).toNatClampNeg (mAI M b3 (x4 : Int32).toNatClampNeg) →
  T (h + 1) mdX11_part1 137 [(0, .ref x0), (1, .int x1), (2, .int x2), (3, .int s0), (4, .int (x4 + 1))] [] M6 Q
set_option maxRecDepth 20000 in
set_option maxHeartbeats 2000000 in
theorem VX11_part1_179 {h : Nat} {x0 : Nat} {x1 : Int32} {x2 : Int32} {x4 : Int32} {s0 : Int32} {M : Mem} {Q : Option Value → Mem → Prop} (H : DX11_part1_179 h x0 x1 x2 x4 s0 M Q) : T (h + 1) mdX11_part1 179 [(0, .ref x0), (1, .int x1), (2, .int x2), (4, .int x4)] [.int s0] M Q := by
  unfold DX11_part1_179 at H
  refine xt_istore_n (lv' := [(3, .int s0), (0, .ref x0), (1, .int x1), (2, .int x2), (4, .int x4)]) dX11_part1_179 rfl (by decide) rfl ?_
  refine xt_aload_n (j := 1) dX11_part1_180 rfl rfl ?_
  obtain ⟨ho1, H⟩ := H
  obtain ⟨b2, hb, H⟩ := H
  refine xt_getR dX11_part1_181 (flX11_306 rfl) ft_13_120 ho1.1 ho1.2 hb ?_
  refine xt_bipush (v := 48) dX11_part1_184 (by decide) ?_
  refine xt_iload_n (j := 2) dX11_part1_186 rfl rfl ?_
  refine xt_imul dX11_part1_187 ?_
  refine xt_iload (j := 4) dX11_part1_188 rfl ?_
  refine xt_iadd dX11_part1_190 ?_
  refine xt_aload_n (j := 1) dX11_part1_191 rfl rfl ?_
  obtain ⟨b3, hb, H⟩ := H
  refine xt_getR dX11_part1_192 (flX11_322 rfl) ft_13_125 ho1.1 ho1.2 hb ?_
  refine xt_iload (j := 4) dX11_part1_195 rfl ?_
  obtain ⟨ho4, H⟩ := H
  obtain ⟨hi, H⟩ := H
  refine xt_iald dX11_part1_197 ho4.1 ho4.2 hi ?_
  obtain ⟨ho5, H⟩ := H
  obtain ⟨hi, H⟩ := H
  obtain ⟨M6, eM6⟩ : ∃ z, z = wAI M b2 ((48 * x1) + x4 : Int32).toNatClampNeg (mAI M b3 (x4 : Int32).toNatClampNeg) := ⟨_, rfl⟩
  have H := H _ eM6
  refine xt_iast dX11_part1_198 ho5.1 ho5.2 hi ?_
  have ho1 : ok M6 x0 13 := by rw [eM6]; exact ho1
  rw [← eM6]
  refine xt_iinc (j := 4) (v := x4 + 1) (lv' := [(4, .int (x4 + 1)), (3, .int s0), (0, .ref x0), (1, .int x1), (2, .int x2)]) dX11_part1_199 rfl (by rfl) (by decide) rfl ?_
  refine xt_goto (tgt := 137) dX11_part1_202 (by decide) ?_
  exact xt_sub (lv' := [(0, .ref x0), (1, .int x1), (2, .int x2), (3, .int s0), (4, .int (x4 + 1))]) [2, 3, 4, 1, 0] rfl H
def DX11_part1_174 (h : Nat) (x0 : Nat) (x1 : Int32) (x2 : Int32) (x4 : Int32) (M : Mem) (Q : Option Value → Mem → Prop) : Prop :=
  DX11_part1_179 h x0 x1 x2 x4 1 M Q
set_option maxRecDepth 20000 in
set_option maxHeartbeats 2000000 in
theorem VX11_part1_174 {h : Nat} {x0 : Nat} {x1 : Int32} {x2 : Int32} {x4 : Int32} {M : Mem} {Q : Option Value → Mem → Prop} (H : DX11_part1_174 h x0 x1 x2 x4 M Q) : T (h + 1) mdX11_part1 174 [(0, .ref x0), (1, .int x1), (2, .int x2), (4, .int x4)] [] M Q := by
  unfold DX11_part1_174 at H
  refine xt_iconst (v := 1) dX11_part1_174 (by decide) ?_
  refine xt_goto (tgt := 179) dX11_part1_175 (by decide) ?_
  exact xt_sub [0, 1, 2, 3] rfl (VX11_part1_179 H)
def DX11_part1_137 (h : Nat) (x0 : Nat) (x1 : Int32) (x2 : Int32) (x3 : Int32) (x4 : Int32) (M : Mem) (Q : Option Value → Mem → Prop) : Prop :=
  ok M x0 13 ∧ ∃ b2 : Nat, mR M x0 115 = some b2 ∧ ok M b2 21 ∧ vp_in x1 (mL M b2) ∧ ((mAI M b2 (x1 : Int32).toNatClampNeg) ≤ x4 → T (h + 1) mdX11_part1 77 [(0, .ref x0), (1, .int x1), (2, .int x2), (3, .int x3)] [] M Q) ∧
  (¬ ((mAI M b2 (x1 : Int32).toNatClampNeg) ≤ x4) → (¬ x3 = 0 → DX11_part1_174 h x0 x1 x2 x4 M Q) ∧
  (x3 = 0 → ∃ b4 : Nat, mR M x0 120 = some b4 ∧ ok M b4 21 ∧ vp_in ((48 * x1) + x4) (mL M b4) ∧ ∃ b6 : Nat, mR M x0 125 = some b6 ∧ ok M b6 21 ∧ vp_in x4 (mL M b6) ∧ ((mAI M b4 ((48 * x1) + x4 : Int32).toNatClampNeg) = (mAI M b6 (x4 : Int32).toNatClampNeg) → DX11_part1_179 h x0 x1 x2 x4 0 M Q) ∧
  (¬ ((mAI M b4 ((48 * x1) + x4 : Int32).toNatClampNeg) = (mAI M b6 (x4 : Int32).toNatClampNeg)) → DX11_part1_174 h x0 x1 x2 x4 M Q)))
set_option maxRecDepth 20000 in
set_option maxHeartbeats 2000000 in
theorem VX11_part1_137 {h : Nat} {x0 : Nat} {x1 : Int32} {x2 : Int32} {x3 : Int32} {x4 : Int32} {M : Mem} {Q : Option Value → Mem → Prop} (H : DX11_part1_137 h x0 x1 x2 x3 x4 M Q) : T (h + 1) mdX11_part1 137 [(0, .ref x0), (1, .int x1), (2, .int x2), (3, .int x3), (4, .int x4)] [] M Q := by
  unfold DX11_part1_137 at H
  refine xt_iload (j := 4) dX11_part1_137 rfl ?_
  refine xt_aload_n (j := 0) dX11_part1_139 rfl rfl ?_
  obtain ⟨ho1, H⟩ := H
  obtain ⟨b2, hb, H⟩ := H
  refine xt_getR dX11_part1_140 (flX11_291 rfl) ft_13_115 ho1.1 ho1.2 hb ?_
  refine xt_iload_n (j := 1) dX11_part1_143 rfl rfl ?_
  obtain ⟨ho3, H⟩ := H
  obtain ⟨hi, H⟩ := H
  refine xt_iald dX11_part1_144 ho3.1 ho3.2 hi ?_
  refine xt_icmp_ge (tgt := 205) dX11_part1_145 (by decide) (fun hc => ?_) (fun hc => ?_)
  · have H := H.1 hc
    refine xt_goto (tgt := 77) dX11_part1_205 (by decide) ?_
    exact xt_sub (lv' := [(0, .ref x0), (1, .int x1), (2, .int x2), (3, .int x3)]) [0, 1, 2, 3] rfl H
  · have H := H.2 hc
    refine xt_iload_n (j := 3) dX11_part1_148 rfl rfl ?_
    refine xt_if_ne (tgt := 174) dX11_part1_149 (by decide) (fun hc => ?_) (fun hc => ?_)
    · have H := H.1 hc
      exact xt_sub [0, 1, 2, 4] rfl (VX11_part1_174 H)
    · have H := H.2 hc
      refine xt_aload_n (j := 0) dX11_part1_152 rfl rfl ?_
      obtain ⟨b4, hb, H⟩ := H
      refine xt_getR dX11_part1_153 (flX11_306 rfl) ft_13_120 ho1.1 ho1.2 hb ?_
      refine xt_bipush (v := 48) dX11_part1_156 (by decide) ?_
      refine xt_iload_n (j := 1) dX11_part1_158 rfl rfl ?_
      refine xt_imul dX11_part1_159 ?_
      refine xt_iload (j := 4) dX11_part1_160 rfl ?_
      refine xt_iadd dX11_part1_162 ?_
      obtain ⟨ho5, H⟩ := H
      obtain ⟨hi, H⟩ := H
      refine xt_iald dX11_part1_163 ho5.1 ho5.2 hi ?_
      refine xt_aload_n (j := 0) dX11_part1_164 rfl rfl ?_
      obtain ⟨b6, hb, H⟩ := H
      refine xt_getR dX11_part1_165 (flX11_322 rfl) ft_13_125 ho1.1 ho1.2 hb ?_
      refine xt_iload (j := 4) dX11_part1_168 rfl ?_
      obtain ⟨ho7, H⟩ := H
      obtain ⟨hi, H⟩ := H
      refine xt_iald dX11_part1_170 ho7.1 ho7.2 hi ?_
      refine xt_icmp_eq (tgt := 178) dX11_part1_171 (by decide) (fun hc => ?_) (fun hc => ?_)
      · have H := H.1 hc
        refine xt_iconst (v := 0) dX11_part1_178 (by decide) ?_
        exact xt_sub [0, 1, 2, 4] rfl (VX11_part1_179 H)
      · have H := H.2 hc
        exact xt_sub [0, 1, 2, 4] rfl (VX11_part1_174 H)
def DX11_part1_100 (h : Nat) (x0 : Nat) (x1 : Int32) (x2 : Int32) (x3 : Int32) (x4 : Int32) (x5 : Int32) (M : Mem) (Q : Option Value → Mem → Prop) : Prop :=
  ok M x0 13 ∧ E h mdX11_areAlike [.ref x0, .int x1, .int x5, .int x4, .int x2] M (fun r M2 => mE M M2 → ∃ r3 : Int32, r = some (.int r3) ∧ (¬ r3 = 0 → ∃ b4 : Nat, mR M2 x0 125 = some b4 ∧ ok M2 b4 21 ∧ vp_in x4 (mL M2 b4) ∧ ∀ M6 : Mem, M6 = wAI M2 b4 (x4 : Int32).toNatClampNeg x5 →
  T (h + 1) mdX11_part1 86 [(0, .ref x0), (1, .int x1), (2, .int x2), (3, .int x3), (4, .int (x4 + 1))] [] M6 Q) ∧
  (r3 = 0 → T (h + 1) mdX11_part1 100 [(0, .ref x0), (1, .int x1), (2, .int x2), (3, .int x3), (4, .int x4), (5, .int (x5 + 1))] [] M2 Q))
set_option maxRecDepth 20000 in
set_option maxHeartbeats 2000000 in
theorem VX11_part1_100 {h : Nat} {x0 : Nat} {x1 : Int32} {x2 : Int32} {x3 : Int32} {x4 : Int32} {x5 : Int32} {M : Mem} {Q : Option Value → Mem → Prop} (H : DX11_part1_100 h x0 x1 x2 x3 x4 x5 M Q) : T (h + 1) mdX11_part1 100 [(0, .ref x0), (1, .int x1), (2, .int x2), (3, .int x3), (4, .int x4), (5, .int x5)] [] M Q := by
  unfold DX11_part1_100 at H
  refine xt_aload_n (j := 0) dX11_part1_100 rfl rfl ?_
  refine xt_iload_n (j := 1) dX11_part1_101 rfl rfl ?_
  refine xt_iload (j := 5) dX11_part1_102 rfl ?_
  refine xt_iload (j := 4) dX11_part1_104 rfl ?_
  refine xt_iload_n (j := 2) dX11_part1_106 rfl rfl ?_
  obtain ⟨ho1, H⟩ := H
  refine xt_callV (h2 := h) (as := [.int x1, .int x5, .int x4, .int x2]) (st := []) dX11_part1_107 (mlX11_862 rfl) rfl ho1.1 ⟨by rw [ho1.2]; rfl, by rw [ho1.2]; decide⟩ (by first | decide | (simp [Value.category]; done)) (Nat.le_refl _) H (fun r M2 HH hE => ?_)
  obtain ⟨r3, hr, H⟩ := HH hE
  subst hr
  have ho1 := ok_E ho1 hE
  show T _ _ _ _ [.int r3] _ _
  refine xt_if_ne (tgt := 119) dX11_part1_110 (by decide) (fun hc => ?_) (fun hc => ?_)
  · have H := H.1 hc
    refine xt_aload_n (j := 0) dX11_part1_119 rfl rfl ?_
    obtain ⟨b4, hb, H⟩ := H
    refine xt_getR dX11_part1_120 (flX11_322 rfl) ft_13_125 ho1.1 ho1.2 hb ?_
    refine xt_iload (j := 4) dX11_part1_123 rfl ?_
    refine xt_iload (j := 5) dX11_part1_125 rfl ?_
    obtain ⟨ho5, H⟩ := H
    obtain ⟨hi, H⟩ := H
    obtain ⟨M6, eM6⟩ : ∃ z, z = wAI M2 b4 (x4 : Int32).toNatClampNeg x5 := ⟨_, rfl⟩
    have H := H _ eM6
    refine xt_iast dX11_part1_127 ho5.1 ho5.2 hi ?_
    have ho1 : ok M6 x0 13 := by rw [eM6]; exact ho1
    rw [← eM6]
    refine xt_iinc (j := 4) (v := x4 + 1) (lv' := [(4, .int (x4 + 1)), (0, .ref x0), (1, .int x1), (2, .int x2), (3, .int x3), (5, .int x5)]) dX11_part1_128 rfl (by rfl) (by decide) rfl ?_
    refine xt_goto (tgt := 86) dX11_part1_131 (by decide) ?_
    exact xt_sub (lv' := [(0, .ref x0), (1, .int x1), (2, .int x2), (3, .int x3), (4, .int (x4 + 1))]) [1, 2, 3, 4, 0] rfl H
  · have H := H.2 hc
    refine xt_iinc (j := 5) (v := x5 + 1) (lv' := [(5, .int (x5 + 1)), (0, .ref x0), (1, .int x1), (2, .int x2), (3, .int x3), (4, .int x4)]) dX11_part1_113 rfl (by rfl) (by decide) rfl ?_
    refine xt_goto (tgt := 100) dX11_part1_116 (by decide) ?_
    exact xt_sub (lv' := [(0, .ref x0), (1, .int x1), (2, .int x2), (3, .int x3), (4, .int x4), (5, .int (x5 + 1))]) [1, 2, 3, 4, 5, 0] rfl H
def DX11_part1_86 (h : Nat) (x0 : Nat) (x1 : Int32) (x2 : Int32) (x3 : Int32) (x4 : Int32) (M : Mem) (Q : Option Value → Mem → Prop) : Prop :=
  ok M x0 13 ∧ ∃ b2 : Nat, mR M x0 115 = some b2 ∧ ok M b2 21 ∧ vp_in x1 (mL M b2) ∧ ((mAI M b2 (x1 : Int32).toNatClampNeg) ≤ x4 → T (h + 1) mdX11_part1 137 [(0, .ref x0), (1, .int x1), (2, .int x2), (3, .int x3), (4, .int 0)] [] M Q) ∧
  (¬ ((mAI M b2 (x1 : Int32).toNatClampNeg) ≤ x4) → T (h + 1) mdX11_part1 100 [(0, .ref x0), (1, .int x1), (2, .int x2), (3, .int x3), (4, .int x4), (5, .int 0)] [] M Q)
set_option maxRecDepth 20000 in
set_option maxHeartbeats 2000000 in
theorem VX11_part1_86 {h : Nat} {x0 : Nat} {x1 : Int32} {x2 : Int32} {x3 : Int32} {x4 : Int32} {M : Mem} {Q : Option Value → Mem → Prop} (H : DX11_part1_86 h x0 x1 x2 x3 x4 M Q) : T (h + 1) mdX11_part1 86 [(0, .ref x0), (1, .int x1), (2, .int x2), (3, .int x3), (4, .int x4)] [] M Q := by
  unfold DX11_part1_86 at H
  refine xt_iload (j := 4) dX11_part1_86 rfl ?_
  refine xt_aload_n (j := 0) dX11_part1_88 rfl rfl ?_
  obtain ⟨ho1, H⟩ := H
  obtain ⟨b2, hb, H⟩ := H
  refine xt_getR dX11_part1_89 (flX11_291 rfl) ft_13_115 ho1.1 ho1.2 hb ?_
  refine xt_iload_n (j := 1) dX11_part1_92 rfl rfl ?_
  obtain ⟨ho3, H⟩ := H
  obtain ⟨hi, H⟩ := H
  refine xt_iald dX11_part1_93 ho3.1 ho3.2 hi ?_
  refine xt_icmp_ge (tgt := 134) dX11_part1_94 (by decide) (fun hc => ?_) (fun hc => ?_)
  · have H := H.1 hc
    refine xt_iconst (v := 0) dX11_part1_134 (by decide) ?_
    refine xt_istore (lv' := [(4, .int 0), (0, .ref x0), (1, .int x1), (2, .int x2), (3, .int x3)]) dX11_part1_135 (by decide) rfl ?_
    exact xt_sub (lv' := [(0, .ref x0), (1, .int x1), (2, .int x2), (3, .int x3), (4, .int 0)]) [1, 2, 3, 4, 0] rfl H
  · have H := H.2 hc
    refine xt_iconst (v := 0) dX11_part1_97 (by decide) ?_
    refine xt_istore (lv' := [(5, .int 0), (0, .ref x0), (1, .int x1), (2, .int x2), (3, .int x3), (4, .int x4)]) dX11_part1_98 (by decide) rfl ?_
    exact xt_sub (lv' := [(0, .ref x0), (1, .int x1), (2, .int x2), (3, .int x3), (4, .int x4), (5, .int 0)]) [1, 2, 3, 4, 5, 0] rfl H
def DX11_part1_77 (h : Nat) (x0 : Nat) (x1 : Int32) (x2 : Int32) (x3 : Int32) (M : Mem) (Q : Option Value → Mem → Prop) : Prop :=
  (x3 = 0 → Q none M) ∧
  (¬ (x3 = 0) → T (h + 1) mdX11_part1 86 [(0, .ref x0), (1, .int x1), (2, .int x2), (3, .int 0), (4, .int 0)] [] M Q)
set_option maxRecDepth 20000 in
set_option maxHeartbeats 2000000 in
theorem VX11_part1_77 {h : Nat} {x0 : Nat} {x1 : Int32} {x2 : Int32} {x3 : Int32} {M : Mem} {Q : Option Value → Mem → Prop} (H : DX11_part1_77 h x0 x1 x2 x3 M Q) : T (h + 1) mdX11_part1 77 [(0, .ref x0), (1, .int x1), (2, .int x2), (3, .int x3)] [] M Q := by
  unfold DX11_part1_77 at H
  refine xt_iload_n (j := 3) dX11_part1_77 rfl rfl ?_
  refine xt_if_eq (tgt := 208) dX11_part1_78 (by decide) (fun hc => ?_) (fun hc => ?_)
  · have H := H.1 hc
    exact xt_return dX11_part1_208 rfl H
  · have H := H.2 hc
    refine xt_iconst (v := 0) dX11_part1_81 (by decide) ?_
    refine xt_istore_n (lv' := [(3, .int 0), (0, .ref x0), (1, .int x1), (2, .int x2)]) dX11_part1_82 rfl (by decide) rfl ?_
    refine xt_iconst (v := 0) dX11_part1_83 (by decide) ?_
    refine xt_istore (lv' := [(4, .int 0), (3, .int 0), (0, .ref x0), (1, .int x1), (2, .int x2)]) dX11_part1_84 (by decide) rfl ?_
    exact xt_sub (lv' := [(0, .ref x0), (1, .int x1), (2, .int x2), (3, .int 0), (4, .int 0)]) [2, 3, 4, 1, 0] rfl H
def DX11_part1_47 (h : Nat) (x0 : Nat) (x1 : Int32) (x2 : Int32) (x3 : Int32) (M : Mem) (Q : Option Value → Mem → Prop) : Prop :=
  ok M x0 13 ∧ ∃ b2 : Nat, mR M x0 115 = some b2 ∧ ok M b2 21 ∧ vp_in x1 (mL M b2) ∧ ((mAI M b2 (x1 : Int32).toNatClampNeg) ≤ x3 → T (h + 1) mdX11_part1 77 [(0, .ref x0), (1, .int x1), (2, .int x2), (3, .int 1)] [] M Q) ∧
  (¬ ((mAI M b2 (x1 : Int32).toNatClampNeg) ≤ x3) → ∃ b4 : Nat, mR M x0 120 = some b4 ∧ ok M b4 21 ∧ vp_in ((48 * x1) + x3) (mL M b4) ∧ ∀ M6 : Mem, M6 = wAI M b4 ((48 * x1) + x3 : Int32).toNatClampNeg 0 →
  T (h + 1) mdX11_part1 47 [(0, .ref x0), (1, .int x1), (2, .int x2), (3, .int (x3 + 1))] [] M6 Q)
set_option maxRecDepth 20000 in
set_option maxHeartbeats 2000000 in
theorem VX11_part1_47 {h : Nat} {x0 : Nat} {x1 : Int32} {x2 : Int32} {x3 : Int32} {M : Mem} {Q : Option Value → Mem → Prop} (H : DX11_part1_47 h x0 x1 x2 x3 M Q) : T (h + 1) mdX11_part1 47 [(0, .ref x0), (1, .int x1), (2, .int x2), (3, .int x3)] [] M Q := by
  unfold DX11_part1_47 at H
  refine xt_iload_n (j := 3) dX11_part1_47 rfl rfl ?_
  refine xt_aload_n (j := 0) dX11_part1_48 rfl rfl ?_
  obtain ⟨ho1, H⟩ := H
  obtain ⟨b2, hb, H⟩ := H
  refine xt_getR dX11_part1_49 (flX11_291 rfl) ft_13_115 ho1.1 ho1.2 hb ?_
  refine xt_iload_n (j := 1) dX11_part1_52 rfl rfl ?_
  obtain ⟨ho3, H⟩ := H
  obtain ⟨hi, H⟩ := H
  refine xt_iald dX11_part1_53 ho3.1 ho3.2 hi ?_
  refine xt_icmp_ge (tgt := 75) dX11_part1_54 (by decide) (fun hc => ?_) (fun hc => ?_)
  · have H := H.1 hc
    refine xt_iconst (v := 1) dX11_part1_75 (by decide) ?_
    refine xt_istore_n (lv' := [(3, .int 1), (0, .ref x0), (1, .int x1), (2, .int x2)]) dX11_part1_76 rfl (by decide) rfl ?_
    exact xt_sub (lv' := [(0, .ref x0), (1, .int x1), (2, .int x2), (3, .int 1)]) [1, 2, 3, 0] rfl H
  · have H := H.2 hc
    refine xt_aload_n (j := 0) dX11_part1_57 rfl rfl ?_
    obtain ⟨b4, hb, H⟩ := H
    refine xt_getR dX11_part1_58 (flX11_306 rfl) ft_13_120 ho1.1 ho1.2 hb ?_
    refine xt_bipush (v := 48) dX11_part1_61 (by decide) ?_
    refine xt_iload_n (j := 1) dX11_part1_63 rfl rfl ?_
    refine xt_imul dX11_part1_64 ?_
    refine xt_iload_n (j := 3) dX11_part1_65 rfl rfl ?_
    refine xt_iadd dX11_part1_66 ?_
    refine xt_iconst (v := 0) dX11_part1_67 (by decide) ?_
    obtain ⟨ho5, H⟩ := H
    obtain ⟨hi, H⟩ := H
    obtain ⟨M6, eM6⟩ : ∃ z, z = wAI M b4 ((48 * x1) + x3 : Int32).toNatClampNeg 0 := ⟨_, rfl⟩
    have H := H _ eM6
    refine xt_iast dX11_part1_68 ho5.1 ho5.2 hi ?_
    have ho1 : ok M6 x0 13 := by rw [eM6]; exact ho1
    rw [← eM6]
    refine xt_iinc (j := 3) (v := x3 + 1) (lv' := [(3, .int (x3 + 1)), (0, .ref x0), (1, .int x1), (2, .int x2)]) dX11_part1_69 rfl (by rfl) (by decide) rfl ?_
    refine xt_goto (tgt := 47) dX11_part1_72 (by decide) ?_
    exact xt_sub (lv' := [(0, .ref x0), (1, .int x1), (2, .int x2), (3, .int (x3 + 1))]) [1, 2, 3, 0] rfl H
def DX11_part1_37 (h : Nat) (x0 : Nat) (x1 : Int32) (x3 : Int32) (s0 : Int32) (s1 : Int32) (M : Mem) (Q : Option Value → Mem → Prop) : Prop :=
  T (h + 1) mdX11_part1 4 [(0, .ref x0), (1, .int x1), (2, .int (s0 ||| s1)), (3, .int (x3 + 1))] [] M Q
set_option maxRecDepth 20000 in
set_option maxHeartbeats 2000000 in
theorem VX11_part1_37 {h : Nat} {x0 : Nat} {x1 : Int32} {x3 : Int32} {s0 : Int32} {s1 : Int32} {M : Mem} {Q : Option Value → Mem → Prop} (H : DX11_part1_37 h x0 x1 x3 s0 s1 M Q) : T (h + 1) mdX11_part1 37 [(0, .ref x0), (1, .int x1), (3, .int x3)] [.int s1, .int s0] M Q := by
  unfold DX11_part1_37 at H
  refine xt_ior dX11_part1_37 ?_
  refine xt_istore_n (lv' := [(2, .int (s0 ||| s1)), (0, .ref x0), (1, .int x1), (3, .int x3)]) dX11_part1_38 rfl (by decide) rfl ?_
  refine xt_iinc (j := 3) (v := x3 + 1) (lv' := [(3, .int (x3 + 1)), (2, .int (s0 ||| s1)), (0, .ref x0), (1, .int x1)]) dX11_part1_39 rfl (by rfl) (by decide) rfl ?_
  refine xt_goto (tgt := 4) dX11_part1_42 (by decide) ?_
  exact xt_sub (lv' := [(0, .ref x0), (1, .int x1), (2, .int (s0 ||| s1)), (3, .int (x3 + 1))]) [2, 3, 1, 0] rfl H
def DX11_part1_4 (h : Nat) (x0 : Nat) (x1 : Int32) (x2 : Int32) (x3 : Int32) (M : Mem) (Q : Option Value → Mem → Prop) : Prop :=
  ok M x0 13 ∧ ∃ b2 : Nat, mR M x0 8 = some b2 ∧ ok M b2 21 ∧ vp_in x1 (mL M b2) ∧ ((mAI M b2 (x1 : Int32).toNatClampNeg) ≤ x3 → T (h + 1) mdX11_part1 47 [(0, .ref x0), (1, .int x1), (2, .int x2), (3, .int 0)] [] M Q) ∧
  (¬ ((mAI M b2 (x1 : Int32).toNatClampNeg) ≤ x3) → ∃ b4 : Nat, mR M x0 12 = some b4 ∧ ok M b4 21 ∧ vp_in ((16 * x1) + x3) (mL M b4) ∧ (¬ (mAI M b4 ((16 * x1) + x3 : Int32).toNatClampNeg) = 1 → DX11_part1_37 h x0 x1 x3 x2 0 M Q) ∧
  ((mAI M b4 ((16 * x1) + x3 : Int32).toNatClampNeg) = 1 → DX11_part1_37 h x0 x1 x3 x2 ((1 : Int32) <<< (x3 &&& 31)) M Q))
set_option maxRecDepth 20000 in
set_option maxHeartbeats 2000000 in
theorem VX11_part1_4 {h : Nat} {x0 : Nat} {x1 : Int32} {x2 : Int32} {x3 : Int32} {M : Mem} {Q : Option Value → Mem → Prop} (H : DX11_part1_4 h x0 x1 x2 x3 M Q) : T (h + 1) mdX11_part1 4 [(0, .ref x0), (1, .int x1), (2, .int x2), (3, .int x3)] [] M Q := by
  unfold DX11_part1_4 at H
  refine xt_iload_n (j := 3) dX11_part1_4 rfl rfl ?_
  refine xt_aload_n (j := 0) dX11_part1_5 rfl rfl ?_
  obtain ⟨ho1, H⟩ := H
  obtain ⟨b2, hb, H⟩ := H
  refine xt_getR dX11_part1_6 (flX11_23 rfl) ft_13_8 ho1.1 ho1.2 hb ?_
  refine xt_iload_n (j := 1) dX11_part1_9 rfl rfl ?_
  obtain ⟨ho3, H⟩ := H
  obtain ⟨hi, H⟩ := H
  refine xt_iald dX11_part1_10 ho3.1 ho3.2 hi ?_
  refine xt_icmp_ge (tgt := 45) dX11_part1_11 (by decide) (fun hc => ?_) (fun hc => ?_)
  · have H := H.1 hc
    refine xt_iconst (v := 0) dX11_part1_45 (by decide) ?_
    refine xt_istore_n (lv' := [(3, .int 0), (0, .ref x0), (1, .int x1), (2, .int x2)]) dX11_part1_46 rfl (by decide) rfl ?_
    exact xt_sub (lv' := [(0, .ref x0), (1, .int x1), (2, .int x2), (3, .int 0)]) [1, 2, 3, 0] rfl H
  · have H := H.2 hc
    refine xt_iload_n (j := 2) dX11_part1_14 rfl rfl ?_
    refine xt_aload_n (j := 0) dX11_part1_15 rfl rfl ?_
    obtain ⟨b4, hb, H⟩ := H
    refine xt_getR dX11_part1_16 (flX11_35 rfl) ft_13_12 ho1.1 ho1.2 hb ?_
    refine xt_bipush (v := 16) dX11_part1_19 (by decide) ?_
    refine xt_iload_n (j := 1) dX11_part1_21 rfl rfl ?_
    refine xt_imul dX11_part1_22 ?_
    refine xt_iload_n (j := 3) dX11_part1_23 rfl rfl ?_
    refine xt_iadd dX11_part1_24 ?_
    obtain ⟨ho5, H⟩ := H
    obtain ⟨hi, H⟩ := H
    refine xt_iald dX11_part1_25 ho5.1 ho5.2 hi ?_
    refine xt_iconst (v := 1) dX11_part1_26 (by decide) ?_
    refine xt_icmp_ne (tgt := 36) dX11_part1_27 (by decide) (fun hc => ?_) (fun hc => ?_)
    · have H := H.1 hc
      refine xt_iconst (v := 0) dX11_part1_36 (by decide) ?_
      exact xt_sub [0, 1, 3] rfl (VX11_part1_37 H)
    · have H := H.2 hc
      refine xt_iconst (v := 1) dX11_part1_30 (by decide) ?_
      refine xt_iload_n (j := 3) dX11_part1_31 rfl rfl ?_
      refine xt_ishl dX11_part1_32 ?_
      refine xt_goto (tgt := 37) dX11_part1_33 (by decide) ?_
      exact xt_sub [0, 1, 3] rfl (VX11_part1_37 H)
def DX11_part1_0 (h : Nat) (x0 : Nat) (x1 : Int32) (M : Mem) (Q : Option Value → Mem → Prop) : Prop :=
  T (h + 1) mdX11_part1 4 [(0, .ref x0), (1, .int x1), (2, .int 0), (3, .int 0)] [] M Q
set_option maxRecDepth 20000 in
set_option maxHeartbeats 2000000 in
theorem VX11_part1_0 {h : Nat} {x0 : Nat} {x1 : Int32} {M : Mem} {Q : Option Value → Mem → Prop} (H : DX11_part1_0 h x0 x1 M Q) : T (h + 1) mdX11_part1 0 [(0, .ref x0), (1, .int x1)] [] M Q := by
  unfold DX11_part1_0 at H
  refine xt_iconst (v := 0) dX11_part1_0 (by decide) ?_
  refine xt_istore_n (lv' := [(2, .int 0), (0, .ref x0), (1, .int x1)]) dX11_part1_1 rfl (by decide) rfl ?_
  refine xt_iconst (v := 0) dX11_part1_2 (by decide) ?_
  refine xt_istore_n (lv' := [(3, .int 0), (2, .int 0), (0, .ref x0), (1, .int x1)]) dX11_part1_3 rfl (by decide) rfl ?_
  exact xt_sub (lv' := [(0, .ref x0), (1, .int x1), (2, .int 0), (3, .int 0)]) [2, 3, 1, 0] rfl H
theorem KX11_part1 {h : Nat} {x0 : Nat} {x1 : Int32} {M : Mem} {Q : Option Value → Mem → Prop} (H : DX11_part1_0 h x0 x1 M Q) : E (h + 1) mdX11_part1 [.ref x0, .int x1] M Q := E.of (by decide) (Nat.le_of_ble_eq_true rfl) (fun _ _ _ => trivial) (VX11_part1_0 H)
def DX11_isSearched_30 (h : Nat) (s0 : Int32) (M : Mem) (Q : Option Value → Mem → Prop) : Prop :=
  (s0 = 0 ∨ s0 = 1) ∧ Q (some (.int s0)) M
set_option maxRecDepth 20000 in
set_option maxHeartbeats 2000000 in
theorem VX11_isSearched_30 {h : Nat} {s0 : Int32} {M : Mem} {Q : Option Value → Mem → Prop} (H : DX11_isSearched_30 h s0 M Q) : T (h + 1) mdX11_isSearched 30 [] [.int s0] M Q := by
  unfold DX11_isSearched_30 at H
  exact xt_zreturn dX11_isSearched_30 rfl H.1 H.2
def DX11_isSearched_0 (h : Nat) (x0 : Nat) (x1 : Int32) (M : Mem) (Q : Option Value → Mem → Prop) : Prop :=
  ok M x0 13 ∧ E h mdX11_isModule [.ref x0, .int x1] M (fun r M2 => mE M M2 → ∃ r3 : Int32, r = some (.int r3) ∧ (¬ r3 = 0 → E h mdX11_look [.ref x0, .int x1] M2 (fun r M4 => mE M2 M4 → r = none ∧ ∃ b5 : Nat, mR M4 x0 114 = some b5 ∧ ok M4 b5 21 ∧ vp_in x1 (mL M4 b5) ∧ (¬ (mAI M4 b5 (x1 : Int32).toNatClampNeg) = 1 → DX11_isSearched_30 h 0 M4 Q) ∧
  ((mAI M4 b5 (x1 : Int32).toNatClampNeg) = 1 → DX11_isSearched_30 h 1 M4 Q))) ∧
  (r3 = 0 → ((0 : Int32) = 0 ∨ (0 : Int32) = 1) ∧ Q (some (.int 0)) M2))
set_option maxRecDepth 20000 in
set_option maxHeartbeats 2000000 in
theorem VX11_isSearched_0 {h : Nat} {x0 : Nat} {x1 : Int32} {M : Mem} {Q : Option Value → Mem → Prop} (H : DX11_isSearched_0 h x0 x1 M Q) : T (h + 1) mdX11_isSearched 0 [(0, .ref x0), (1, .int x1)] [] M Q := by
  unfold DX11_isSearched_0 at H
  refine xt_aload_n (j := 0) dX11_isSearched_0 rfl rfl ?_
  refine xt_iload_n (j := 1) dX11_isSearched_1 rfl rfl ?_
  obtain ⟨ho1, H⟩ := H
  refine xt_callV (h2 := h) (as := [.int x1]) (st := []) dX11_isSearched_2 (mlX11_727 rfl) rfl ho1.1 ⟨by rw [ho1.2]; rfl, by rw [ho1.2]; decide⟩ (by first | decide | (simp [Value.category]; done)) (Nat.le_refl _) H (fun r M2 HH hE => ?_)
  obtain ⟨r3, hr, H⟩ := HH hE
  subst hr
  have ho1 := ok_E ho1 hE
  show T _ _ _ _ [.int r3] _ _
  refine xt_if_ne (tgt := 10) dX11_isSearched_5 (by decide) (fun hc => ?_) (fun hc => ?_)
  · have H := H.1 hc
    refine xt_aload_n (j := 0) dX11_isSearched_10 rfl rfl ?_
    refine xt_iload_n (j := 1) dX11_isSearched_11 rfl rfl ?_
    refine xt_callV (h2 := h) (as := [.int x1]) (st := []) dX11_isSearched_12 (mlX11_866 rfl) rfl ho1.1 ⟨by rw [ho1.2]; rfl, by rw [ho1.2]; decide⟩ (by first | decide | (simp [Value.category]; done)) (Nat.le_refl _) H (fun r M4 HH hE => ?_)
    obtain ⟨hr, H⟩ := HH hE
    subst hr
    have ho1 := ok_E ho1 hE
    show T _ _ _ _ [] _ _
    refine xt_aload_n (j := 0) dX11_isSearched_15 rfl rfl ?_
    obtain ⟨b5, hb, H⟩ := H
    refine xt_getR dX11_isSearched_16 (flX11_288 rfl) ft_13_114 ho1.1 ho1.2 hb ?_
    refine xt_iload_n (j := 1) dX11_isSearched_19 rfl rfl ?_
    obtain ⟨ho6, H⟩ := H
    obtain ⟨hi, H⟩ := H
    refine xt_iald dX11_isSearched_20 ho6.1 ho6.2 hi ?_
    refine xt_iconst (v := 1) dX11_isSearched_21 (by decide) ?_
    refine xt_icmp_ne (tgt := 29) dX11_isSearched_22 (by decide) (fun hc => ?_) (fun hc => ?_)
    · have H := H.1 hc
      refine xt_iconst (v := 0) dX11_isSearched_29 (by decide) ?_
      exact xt_sub [] rfl (VX11_isSearched_30 H)
    · have H := H.2 hc
      refine xt_iconst (v := 1) dX11_isSearched_25 (by decide) ?_
      refine xt_goto (tgt := 30) dX11_isSearched_26 (by decide) ?_
      exact xt_sub [] rfl (VX11_isSearched_30 H)
  · have H := H.2 hc
    refine xt_iconst (v := 0) dX11_isSearched_8 (by decide) ?_
    exact xt_zreturn dX11_isSearched_9 rfl H.1 H.2
theorem KX11_isSearched {h : Nat} {x0 : Nat} {x1 : Int32} {M : Mem} {Q : Option Value → Mem → Prop} (H : DX11_isSearched_0 h x0 x1 M Q) : E (h + 1) mdX11_isSearched [.ref x0, .int x1] M Q := E.of (by decide) (Nat.le_of_ble_eq_true rfl) (fun _ _ _ => trivial) (VX11_isSearched_0 H)
def DX11_search_36 (h : Nat) (s0 : Int32) (M : Mem) (Q : Option Value → Mem → Prop) : Prop :=
  Q (some (.int s0)) M
set_option maxRecDepth 20000 in
set_option maxHeartbeats 2000000 in
theorem VX11_search_36 {h : Nat} {s0 : Int32} {M : Mem} {Q : Option Value → Mem → Prop} (H : DX11_search_36 h s0 M Q) : T (h + 1) mdX11_search 36 [] [.int s0] M Q := by
  unfold DX11_search_36 at H
  exact xt_ireturn dX11_search_36 rfl H
def DX11_search_0 (h : Nat) (x0 : Nat) (x1 : Int32) (M : Mem) (Q : Option Value → Mem → Prop) : Prop :=
  ok M x0 13 ∧ E h mdX11_isModule [.ref x0, .int x1] M (fun r M2 => mE M M2 → ∃ r3 : Int32, r = some (.int r3) ∧ (¬ r3 = 0 → E h mdX11_look [.ref x0, .int x1] M2 (fun r M4 => mE M2 M4 → r = none ∧ ∃ b5 : Nat, mR M4 x0 114 = some b5 ∧ ok M4 b5 21 ∧ vp_in x1 (mL M4 b5) ∧ (¬ (mAI M4 b5 (x1 : Int32).toNatClampNeg) = 1 → DX11_search_36 h (-4) M4 Q) ∧
  ((mAI M4 b5 (x1 : Int32).toNatClampNeg) = 1 → ∃ b7 : Nat, mR M4 x0 115 = some b7 ∧ ok M4 b7 21 ∧ vp_in x1 (mL M4 b7) ∧ DX11_search_36 h (mAI M4 b7 (x1 : Int32).toNatClampNeg) M4 Q))) ∧
  (r3 = 0 → Q (some (.int (-1))) M2))
set_option maxRecDepth 20000 in
set_option maxHeartbeats 2000000 in
theorem VX11_search_0 {h : Nat} {x0 : Nat} {x1 : Int32} {M : Mem} {Q : Option Value → Mem → Prop} (H : DX11_search_0 h x0 x1 M Q) : T (h + 1) mdX11_search 0 [(0, .ref x0), (1, .int x1)] [] M Q := by
  unfold DX11_search_0 at H
  refine xt_aload_n (j := 0) dX11_search_0 rfl rfl ?_
  refine xt_iload_n (j := 1) dX11_search_1 rfl rfl ?_
  obtain ⟨ho1, H⟩ := H
  refine xt_callV (h2 := h) (as := [.int x1]) (st := []) dX11_search_2 (mlX11_727 rfl) rfl ho1.1 ⟨by rw [ho1.2]; rfl, by rw [ho1.2]; decide⟩ (by first | decide | (simp [Value.category]; done)) (Nat.le_refl _) H (fun r M2 HH hE => ?_)
  obtain ⟨r3, hr, H⟩ := HH hE
  subst hr
  have ho1 := ok_E ho1 hE
  show T _ _ _ _ [.int r3] _ _
  refine xt_if_ne (tgt := 10) dX11_search_5 (by decide) (fun hc => ?_) (fun hc => ?_)
  · have H := H.1 hc
    refine xt_aload_n (j := 0) dX11_search_10 rfl rfl ?_
    refine xt_iload_n (j := 1) dX11_search_11 rfl rfl ?_
    refine xt_callV (h2 := h) (as := [.int x1]) (st := []) dX11_search_12 (mlX11_866 rfl) rfl ho1.1 ⟨by rw [ho1.2]; rfl, by rw [ho1.2]; decide⟩ (by first | decide | (simp [Value.category]; done)) (Nat.le_refl _) H (fun r M4 HH hE => ?_)
    obtain ⟨hr, H⟩ := HH hE
    subst hr
    have ho1 := ok_E ho1 hE
    show T _ _ _ _ [] _ _
    refine xt_aload_n (j := 0) dX11_search_15 rfl rfl ?_
    obtain ⟨b5, hb, H⟩ := H
    refine xt_getR dX11_search_16 (flX11_288 rfl) ft_13_114 ho1.1 ho1.2 hb ?_
    refine xt_iload_n (j := 1) dX11_search_19 rfl rfl ?_
    obtain ⟨ho6, H⟩ := H
    obtain ⟨hi, H⟩ := H
    refine xt_iald dX11_search_20 ho6.1 ho6.2 hi ?_
    refine xt_iconst (v := 1) dX11_search_21 (by decide) ?_
    refine xt_icmp_ne (tgt := 34) dX11_search_22 (by decide) (fun hc => ?_) (fun hc => ?_)
    · have H := H.1 hc
      refine xt_bipush (v := -4) dX11_search_34 (by decide) ?_
      exact xt_sub [] rfl (VX11_search_36 H)
    · have H := H.2 hc
      refine xt_aload_n (j := 0) dX11_search_25 rfl rfl ?_
      obtain ⟨b7, hb, H⟩ := H
      refine xt_getR dX11_search_26 (flX11_291 rfl) ft_13_115 ho1.1 ho1.2 hb ?_
      refine xt_iload_n (j := 1) dX11_search_29 rfl rfl ?_
      obtain ⟨ho8, H⟩ := H
      obtain ⟨hi, H⟩ := H
      refine xt_iald dX11_search_30 ho8.1 ho8.2 hi ?_
      refine xt_goto (tgt := 36) dX11_search_31 (by decide) ?_
      exact xt_sub [] rfl (VX11_search_36 H)
  · have H := H.2 hc
    refine xt_iconst (v := -1) dX11_search_8 (by decide) ?_
    exact xt_ireturn dX11_search_9 rfl H
theorem KX11_search {h : Nat} {x0 : Nat} {x1 : Int32} {M : Mem} {Q : Option Value → Mem → Prop} (H : DX11_search_0 h x0 x1 M Q) : E (h + 1) mdX11_search [.ref x0, .int x1] M Q := E.of (by decide) (Nat.le_of_ble_eq_true rfl) (fun _ _ _ => trivial) (VX11_search_0 H)
def DX11_move_54 (h : Nat) (M : Mem) (Q : Option Value → Mem → Prop) : Prop :=
  Q (some (.int (-9))) M
set_option maxRecDepth 20000 in
set_option maxHeartbeats 2000000 in
theorem VX11_move_54 {h : Nat} {M : Mem} {Q : Option Value → Mem → Prop} (H : DX11_move_54 h  M Q) : T (h + 1) mdX11_move 54 [] [] M Q := by
  unfold DX11_move_54 at H
  refine xt_bipush (v := -9) dX11_move_54 (by decide) ?_
  exact xt_ireturn dX11_move_56 rfl H
def DX11_move_92 (h : Nat) (s0 : Int32) (M : Mem) (Q : Option Value → Mem → Prop) : Prop :=
  Q (some (.int s0)) M
set_option maxRecDepth 20000 in
set_option maxHeartbeats 2000000 in
theorem VX11_move_92 {h : Nat} {s0 : Int32} {M : Mem} {Q : Option Value → Mem → Prop} (H : DX11_move_92 h s0 M Q) : T (h + 1) mdX11_move 92 [] [.int s0] M Q := by
  unfold DX11_move_92 at H
  exact xt_ireturn dX11_move_92 rfl H
def DX11_move_0 (h : Nat) (x0 : Nat) (x1 : Int32) (x2 : Int32) (x3 : Int32) (x4 : Int32) (M : Mem) (Q : Option Value → Mem → Prop) : Prop :=
  ok M x0 13 ∧ E h mdX11_isSearched [.ref x0, .int x1] M (fun r M2 => mE M M2 → ∃ r3 : Int32, r = some (.int r3) ∧ (r3 = 0 → DX11_move_54 h  M2 Q) ∧
  (¬ (r3 = 0) → ∃ b4 : Nat, mR M2 x0 115 = some b4 ∧ ok M2 b4 21 ∧ vp_in x1 (mL M2 b4) ∧ E h mdX11_in [.long ((x2 : Int32).toInt64), .long 0, .long (((mAI M2 b4 (x1 : Int32).toNatClampNeg) - 1 : Int32).toInt64)] M2 (fun r M6 => mE M2 M6 → ∃ r7 : Int32, r = some (.int r7) ∧ (r7 = 0 → DX11_move_54 h  M6 Q) ∧
  (¬ (r7 = 0) → E h mdX11_moves [.ref x0, .int x1] M6 (fun r M8 => mE M6 M8 → ∃ r9 : Int32, r = some (.int r9) ∧ E h mdX11_in [.long ((x3 : Int32).toInt64), .long 0, .long ((r9 - 1 : Int32).toInt64)] M8 (fun r M10 => mE M8 M10 → ∃ r11 : Int32, r = some (.int r11) ∧ (r11 = 0 → DX11_move_54 h  M10 Q) ∧
  (¬ (r11 = 0) → E h mdX11_in [.long ((x4 : Int32).toInt64), .long 0, .long 1] M10 (fun r M12 => mE M10 M12 → ∃ r13 : Int32, r = some (.int r13) ∧ (¬ r13 = 0 → (¬ x4 = 0 → ∃ b14 : Nat, mR M12 x0 122 = some b14 ∧ ok M12 b14 21 ∧ vp_in ((32 * ((48 * x1) + x2)) + x3) (mL M12 b14) ∧ DX11_move_92 h (mAI M12 b14 ((32 * ((48 * x1) + x2)) + x3 : Int32).toNatClampNeg) M12 Q) ∧
  (x4 = 0 → ∃ b16 : Nat, mR M12 x0 121 = some b16 ∧ ok M12 b16 21 ∧ vp_in ((32 * ((48 * x1) + x2)) + x3) (mL M12 b16) ∧ DX11_move_92 h (mAI M12 b16 ((32 * ((48 * x1) + x2)) + x3 : Int32).toNatClampNeg) M12 Q)) ∧
  (r13 = 0 → DX11_move_54 h  M12 Q)))))))))
set_option maxRecDepth 20000 in
set_option maxHeartbeats 2000000 in
theorem VX11_move_0 {h : Nat} {x0 : Nat} {x1 : Int32} {x2 : Int32} {x3 : Int32} {x4 : Int32} {M : Mem} {Q : Option Value → Mem → Prop} (H : DX11_move_0 h x0 x1 x2 x3 x4 M Q) : T (h + 1) mdX11_move 0 [(0, .ref x0), (1, .int x1), (2, .int x2), (3, .int x3), (4, .int x4)] [] M Q := by
  unfold DX11_move_0 at H
  refine xt_aload_n (j := 0) dX11_move_0 rfl rfl ?_
  refine xt_iload_n (j := 1) dX11_move_1 rfl rfl ?_
  obtain ⟨ho1, H⟩ := H
  refine xt_callV (h2 := h) (as := [.int x1]) (st := []) dX11_move_2 (mlX11_869 rfl) rfl ho1.1 ⟨by rw [ho1.2]; rfl, by rw [ho1.2]; decide⟩ (by first | decide | (simp [Value.category]; done)) (Nat.le_refl _) H (fun r M2 HH hE => ?_)
  obtain ⟨r3, hr, H⟩ := HH hE
  subst hr
  have ho1 := ok_E ho1 hE
  show T _ _ _ _ [.int r3] _ _
  refine xt_if_eq (tgt := 54) dX11_move_5 (by decide) (fun hc => ?_) (fun hc => ?_)
  · have H := H.1 hc
    exact xt_sub [] rfl (VX11_move_54 H)
  · have H := H.2 hc
    refine xt_iload_n (j := 2) dX11_move_8 rfl rfl ?_
    refine xt_i2l dX11_move_9 ?_
    refine xt_lconst (v := 0) dX11_move_10 (by decide) ?_
    refine xt_aload_n (j := 0) dX11_move_11 rfl rfl ?_
    obtain ⟨b4, hb, H⟩ := H
    refine xt_getR dX11_move_12 (flX11_291 rfl) ft_13_115 ho1.1 ho1.2 hb ?_
    refine xt_iload_n (j := 1) dX11_move_15 rfl rfl ?_
    obtain ⟨ho5, H⟩ := H
    obtain ⟨hi, H⟩ := H
    refine xt_iald dX11_move_16 ho5.1 ho5.2 hi ?_
    refine xt_iconst (v := 1) dX11_move_17 (by decide) ?_
    refine xt_isub dX11_move_18 ?_
    refine xt_i2l dX11_move_19 ?_
    refine xt_callS (h2 := h) (as := [.long ((x2 : Int32).toInt64), .long 0, .long (((mAI M2 b4 (x1 : Int32).toNatClampNeg) - 1 : Int32).toInt64)]) (st := []) dX11_move_20 (mlX11_332 rfl) rfl (by first | decide | (simp [Value.category]; done)) (Nat.le_refl _) H (fun r M6 HH hE => ?_)
    obtain ⟨r7, hr, H⟩ := HH hE
    subst hr
    have ho1 := ok_E ho1 hE
    show T _ _ _ _ [.int r7] _ _
    refine xt_if_eq (tgt := 54) dX11_move_23 (by decide) (fun hc => ?_) (fun hc => ?_)
    · have H := H.1 hc
      exact xt_sub [] rfl (VX11_move_54 H)
    · have H := H.2 hc
      refine xt_iload_n (j := 3) dX11_move_26 rfl rfl ?_
      refine xt_i2l dX11_move_27 ?_
      refine xt_lconst (v := 0) dX11_move_28 (by decide) ?_
      refine xt_aload_n (j := 0) dX11_move_29 rfl rfl ?_
      refine xt_iload_n (j := 1) dX11_move_30 rfl rfl ?_
      refine xt_callV (h2 := h) (as := [.int x1]) (st := [.long 0, .long ((x3 : Int32).toInt64)]) dX11_move_31 (mlX11_849 rfl) rfl ho1.1 ⟨by rw [ho1.2]; rfl, by rw [ho1.2]; decide⟩ (by first | decide | (simp [Value.category]; done)) (Nat.le_refl _) H (fun r M8 HH hE => ?_)
      obtain ⟨r9, hr, H⟩ := HH hE
      subst hr
      have ho1 := ok_E ho1 hE
      show T _ _ _ _ [.int r9, .long 0, .long ((x3 : Int32).toInt64)] _ _
      refine xt_iconst (v := 1) dX11_move_34 (by decide) ?_
      refine xt_isub dX11_move_35 ?_
      refine xt_i2l dX11_move_36 ?_
      refine xt_callS (h2 := h) (as := [.long ((x3 : Int32).toInt64), .long 0, .long ((r9 - 1 : Int32).toInt64)]) (st := []) dX11_move_37 (mlX11_332 rfl) rfl (by first | decide | (simp [Value.category]; done)) (Nat.le_refl _) H (fun r M10 HH hE => ?_)
      obtain ⟨r11, hr, H⟩ := HH hE
      subst hr
      have ho1 := ok_E ho1 hE
      show T _ _ _ _ [.int r11] _ _
      refine xt_if_eq (tgt := 54) dX11_move_40 (by decide) (fun hc => ?_) (fun hc => ?_)
      · have H := H.1 hc
        exact xt_sub [] rfl (VX11_move_54 H)
      · have H := H.2 hc
        refine xt_iload (j := 4) dX11_move_43 rfl ?_
        refine xt_i2l dX11_move_45 ?_
        refine xt_lconst (v := 0) dX11_move_46 (by decide) ?_
        refine xt_lconst (v := 1) dX11_move_47 (by decide) ?_
        refine xt_callS (h2 := h) (as := [.long ((x4 : Int32).toInt64), .long 0, .long 1]) (st := []) dX11_move_48 (mlX11_332 rfl) rfl (by first | decide | (simp [Value.category]; done)) (Nat.le_refl _) H (fun r M12 HH hE => ?_)
        obtain ⟨r13, hr, H⟩ := HH hE
        subst hr
        have ho1 := ok_E ho1 hE
        show T _ _ _ _ [.int r13] _ _
        refine xt_if_ne (tgt := 57) dX11_move_51 (by decide) (fun hc => ?_) (fun hc => ?_)
        · have H := H.1 hc
          refine xt_bipush (v := 32) dX11_move_57 (by decide) ?_
          refine xt_bipush (v := 48) dX11_move_59 (by decide) ?_
          refine xt_iload_n (j := 1) dX11_move_61 rfl rfl ?_
          refine xt_imul dX11_move_62 ?_
          refine xt_iload_n (j := 2) dX11_move_63 rfl rfl ?_
          refine xt_iadd dX11_move_64 ?_
          refine xt_imul dX11_move_65 ?_
          refine xt_iload_n (j := 3) dX11_move_66 rfl rfl ?_
          refine xt_iadd dX11_move_67 ?_
          refine xt_istore (lv' := [(5, .int ((32 * ((48 * x1) + x2)) + x3)), (0, .ref x0), (1, .int x1), (2, .int x2), (3, .int x3), (4, .int x4)]) dX11_move_68 (by decide) rfl ?_
          refine xt_iload (j := 5) dX11_move_70 rfl ?_
          refine xt_if_ne (tgt := 85) dX11_move_72 (by decide) (fun hc => ?_) (fun hc => ?_)
          · have H := H.1 hc
            refine xt_aload_n (j := 1) dX11_move_85 rfl rfl ?_
            obtain ⟨b14, hb, H⟩ := H
            refine xt_getR dX11_move_86 (flX11_312 rfl) ft_13_122 ho1.1 ho1.2 hb ?_
            refine xt_iload (j := 0) dX11_move_89 rfl ?_
            obtain ⟨ho15, H⟩ := H
            obtain ⟨hi, H⟩ := H
            refine xt_iald dX11_move_91 ho15.1 ho15.2 hi ?_
            exact xt_sub [] rfl (VX11_move_92 H)
          · have H := H.2 hc
            refine xt_aload_n (j := 1) dX11_move_75 rfl rfl ?_
            obtain ⟨b16, hb, H⟩ := H
            refine xt_getR dX11_move_76 (flX11_309 rfl) ft_13_121 ho1.1 ho1.2 hb ?_
            refine xt_iload (j := 0) dX11_move_79 rfl ?_
            obtain ⟨ho17, H⟩ := H
            obtain ⟨hi, H⟩ := H
            refine xt_iald dX11_move_81 ho17.1 ho17.2 hi ?_
            refine xt_goto (tgt := 92) dX11_move_82 (by decide) ?_
            exact xt_sub [] rfl (VX11_move_92 H)
        · have H := H.2 hc
          exact xt_sub [] rfl (VX11_move_54 H)
theorem KX11_move {h : Nat} {x0 : Nat} {x1 : Int32} {x2 : Int32} {x3 : Int32} {x4 : Int32} {M : Mem} {Q : Option Value → Mem → Prop} (H : DX11_move_0 h x0 x1 x2 x3 x4 M Q) : E (h + 1) mdX11_move [.ref x0, .int x1, .int x2, .int x3, .int x4] M Q := E.of (by decide) (Nat.le_of_ble_eq_true rfl) (fun _ _ _ => trivial) (VX11_move_0 H)
def DX11_classOf_42 (h : Nat) (s0 : Int32) (M : Mem) (Q : Option Value → Mem → Prop) : Prop :=
  Q (some (.int s0)) M
set_option maxRecDepth 20000 in
set_option maxHeartbeats 2000000 in
theorem VX11_classOf_42 {h : Nat} {s0 : Int32} {M : Mem} {Q : Option Value → Mem → Prop} (H : DX11_classOf_42 h s0 M Q) : T (h + 1) mdX11_classOf 42 [] [.int s0] M Q := by
  unfold DX11_classOf_42 at H
  exact xt_ireturn dX11_classOf_42 rfl H
def DX11_classOf_40 (h : Nat) (M : Mem) (Q : Option Value → Mem → Prop) : Prop :=
  DX11_classOf_42 h (-9) M Q
set_option maxRecDepth 20000 in
set_option maxHeartbeats 2000000 in
theorem VX11_classOf_40 {h : Nat} {M : Mem} {Q : Option Value → Mem → Prop} (H : DX11_classOf_40 h  M Q) : T (h + 1) mdX11_classOf 40 [] [] M Q := by
  unfold DX11_classOf_40 at H
  refine xt_bipush (v := -9) dX11_classOf_40 (by decide) ?_
  exact xt_sub [] rfl (VX11_classOf_42 H)
def DX11_classOf_0 (h : Nat) (x0 : Nat) (x1 : Int32) (x2 : Int32) (M : Mem) (Q : Option Value → Mem → Prop) : Prop :=
  ok M x0 13 ∧ E h mdX11_isSearched [.ref x0, .int x1] M (fun r M2 => mE M M2 → ∃ r3 : Int32, r = some (.int r3) ∧ (r3 = 0 → DX11_classOf_40 h  M2 Q) ∧
  (¬ (r3 = 0) → ∃ b4 : Nat, mR M2 x0 115 = some b4 ∧ ok M2 b4 21 ∧ vp_in x1 (mL M2 b4) ∧ E h mdX11_in [.long ((x2 : Int32).toInt64), .long 0, .long (((mAI M2 b4 (x1 : Int32).toNatClampNeg) - 1 : Int32).toInt64)] M2 (fun r M6 => mE M2 M6 → ∃ r7 : Int32, r = some (.int r7) ∧ (r7 = 0 → DX11_classOf_40 h  M6 Q) ∧
  (¬ (r7 = 0) → ∃ b8 : Nat, mR M6 x0 120 = some b8 ∧ ok M6 b8 21 ∧ vp_in ((48 * x1) + x2) (mL M6 b8) ∧ DX11_classOf_42 h (mAI M6 b8 ((48 * x1) + x2 : Int32).toNatClampNeg) M6 Q))))
set_option maxRecDepth 20000 in
set_option maxHeartbeats 2000000 in
theorem VX11_classOf_0 {h : Nat} {x0 : Nat} {x1 : Int32} {x2 : Int32} {M : Mem} {Q : Option Value → Mem → Prop} (H : DX11_classOf_0 h x0 x1 x2 M Q) : T (h + 1) mdX11_classOf 0 [(0, .ref x0), (1, .int x1), (2, .int x2)] [] M Q := by
  unfold DX11_classOf_0 at H
  refine xt_aload_n (j := 0) dX11_classOf_0 rfl rfl ?_
  refine xt_iload_n (j := 1) dX11_classOf_1 rfl rfl ?_
  obtain ⟨ho1, H⟩ := H
  refine xt_callV (h2 := h) (as := [.int x1]) (st := []) dX11_classOf_2 (mlX11_869 rfl) rfl ho1.1 ⟨by rw [ho1.2]; rfl, by rw [ho1.2]; decide⟩ (by first | decide | (simp [Value.category]; done)) (Nat.le_refl _) H (fun r M2 HH hE => ?_)
  obtain ⟨r3, hr, H⟩ := HH hE
  subst hr
  have ho1 := ok_E ho1 hE
  show T _ _ _ _ [.int r3] _ _
  refine xt_if_eq (tgt := 40) dX11_classOf_5 (by decide) (fun hc => ?_) (fun hc => ?_)
  · have H := H.1 hc
    exact xt_sub [] rfl (VX11_classOf_40 H)
  · have H := H.2 hc
    refine xt_iload_n (j := 2) dX11_classOf_8 rfl rfl ?_
    refine xt_i2l dX11_classOf_9 ?_
    refine xt_lconst (v := 0) dX11_classOf_10 (by decide) ?_
    refine xt_aload_n (j := 0) dX11_classOf_11 rfl rfl ?_
    obtain ⟨b4, hb, H⟩ := H
    refine xt_getR dX11_classOf_12 (flX11_291 rfl) ft_13_115 ho1.1 ho1.2 hb ?_
    refine xt_iload_n (j := 1) dX11_classOf_15 rfl rfl ?_
    obtain ⟨ho5, H⟩ := H
    obtain ⟨hi, H⟩ := H
    refine xt_iald dX11_classOf_16 ho5.1 ho5.2 hi ?_
    refine xt_iconst (v := 1) dX11_classOf_17 (by decide) ?_
    refine xt_isub dX11_classOf_18 ?_
    refine xt_i2l dX11_classOf_19 ?_
    refine xt_callS (h2 := h) (as := [.long ((x2 : Int32).toInt64), .long 0, .long (((mAI M2 b4 (x1 : Int32).toNatClampNeg) - 1 : Int32).toInt64)]) (st := []) dX11_classOf_20 (mlX11_332 rfl) rfl (by first | decide | (simp [Value.category]; done)) (Nat.le_refl _) H (fun r M6 HH hE => ?_)
    obtain ⟨r7, hr, H⟩ := HH hE
    subst hr
    have ho1 := ok_E ho1 hE
    show T _ _ _ _ [.int r7] _ _
    refine xt_if_eq (tgt := 40) dX11_classOf_23 (by decide) (fun hc => ?_) (fun hc => ?_)
    · have H := H.1 hc
      exact xt_sub [] rfl (VX11_classOf_40 H)
    · have H := H.2 hc
      refine xt_aload_n (j := 0) dX11_classOf_26 rfl rfl ?_
      obtain ⟨b8, hb, H⟩ := H
      refine xt_getR dX11_classOf_27 (flX11_306 rfl) ft_13_120 ho1.1 ho1.2 hb ?_
      refine xt_bipush (v := 48) dX11_classOf_30 (by decide) ?_
      refine xt_iload_n (j := 1) dX11_classOf_32 rfl rfl ?_
      refine xt_imul dX11_classOf_33 ?_
      refine xt_iload_n (j := 2) dX11_classOf_34 rfl rfl ?_
      refine xt_iadd dX11_classOf_35 ?_
      obtain ⟨ho9, H⟩ := H
      obtain ⟨hi, H⟩ := H
      refine xt_iald dX11_classOf_36 ho9.1 ho9.2 hi ?_
      refine xt_goto (tgt := 42) dX11_classOf_37 (by decide) ?_
      exact xt_sub [] rfl (VX11_classOf_42 H)
theorem KX11_classOf {h : Nat} {x0 : Nat} {x1 : Int32} {x2 : Int32} {M : Mem} {Q : Option Value → Mem → Prop} (H : DX11_classOf_0 h x0 x1 x2 M Q) : E (h + 1) mdX11_classOf [.ref x0, .int x1, .int x2] M Q := E.of (by decide) (Nat.le_of_ble_eq_true rfl) (fun _ _ _ => trivial) (VX11_classOf_0 H)
def DX11_way_26 (h : Nat) (M : Mem) (Q : Option Value → Mem → Prop) : Prop :=
  Q (some (.int (-9))) M
set_option maxRecDepth 20000 in
set_option maxHeartbeats 2000000 in
theorem VX11_way_26 {h : Nat} {M : Mem} {Q : Option Value → Mem → Prop} (H : DX11_way_26 h  M Q) : T (h + 1) mdX11_way 26 [] [] M Q := by
  unfold DX11_way_26 at H
  refine xt_bipush (v := -9) dX11_way_26 (by decide) ?_
  exact xt_ireturn dX11_way_28 rfl H
def DX11_way_105 (h : Nat) (x0 : Nat) (x1 : Int32) (x3 : Int32) (x5 : Int32) (x6 : Int32) (M : Mem) (Q : Option Value → Mem → Prop) : Prop :=
  (x6 ≤ x3 → ok M x0 13 ∧ ∃ b2 : Nat, mR M x0 119 = some b2 ∧ ok M b2 21 ∧ vp_in ((48 * x1) + x5) (mL M b2) ∧ Q (some (.int (mAI M b2 ((48 * x1) + x5 : Int32).toNatClampNeg))) M) ∧
  (¬ (x6 ≤ x3) → ok M x0 13 ∧ ∃ b5 : Nat, mR M x0 118 = some b5 ∧ ok M b5 21 ∧ vp_in ((48 * x1) + x5) (mL M b5) ∧ T (h + 1) mdX11_way 105 [(0, .ref x0), (1, .int x1), (3, .int x3), (5, .int (mAI M b5 ((48 * x1) + x5 : Int32).toNatClampNeg)), (6, .int (x6 + (-1)))] [] M Q)
set_option maxRecDepth 20000 in
set_option maxHeartbeats 2000000 in
theorem VX11_way_105 {h : Nat} {x0 : Nat} {x1 : Int32} {x3 : Int32} {x5 : Int32} {x6 : Int32} {M : Mem} {Q : Option Value → Mem → Prop} (H : DX11_way_105 h x0 x1 x3 x5 x6 M Q) : T (h + 1) mdX11_way 105 [(0, .ref x0), (1, .int x1), (3, .int x3), (5, .int x5), (6, .int x6)] [] M Q := by
  unfold DX11_way_105 at H
  refine xt_iload (j := 4) dX11_way_105 rfl ?_
  refine xt_iload_n (j := 2) dX11_way_107 rfl rfl ?_
  refine xt_icmp_le (tgt := 131) dX11_way_108 (by decide) (fun hc => ?_) (fun hc => ?_)
  · have H := H.1 hc
    refine xt_aload_n (j := 0) dX11_way_131 rfl rfl ?_
    obtain ⟨ho1, H⟩ := H
    obtain ⟨b2, hb, H⟩ := H
    refine xt_getR dX11_way_132 (flX11_303 rfl) ft_13_119 ho1.1 ho1.2 hb ?_
    refine xt_bipush (v := 48) dX11_way_135 (by decide) ?_
    refine xt_iload_n (j := 1) dX11_way_137 rfl rfl ?_
    refine xt_imul dX11_way_138 ?_
    refine xt_iload (j := 3) dX11_way_139 rfl ?_
    refine xt_iadd dX11_way_141 ?_
    obtain ⟨ho3, H⟩ := H
    obtain ⟨hi, H⟩ := H
    refine xt_iald dX11_way_142 ho3.1 ho3.2 hi ?_
    exact xt_ireturn dX11_way_143 rfl H
  · have H := H.2 hc
    refine xt_aload_n (j := 0) dX11_way_111 rfl rfl ?_
    obtain ⟨ho4, H⟩ := H
    obtain ⟨b5, hb, H⟩ := H
    refine xt_getR dX11_way_112 (flX11_300 rfl) ft_13_118 ho4.1 ho4.2 hb ?_
    refine xt_bipush (v := 48) dX11_way_115 (by decide) ?_
    refine xt_iload_n (j := 1) dX11_way_117 rfl rfl ?_
    refine xt_imul dX11_way_118 ?_
    refine xt_iload (j := 3) dX11_way_119 rfl ?_
    refine xt_iadd dX11_way_121 ?_
    obtain ⟨ho6, H⟩ := H
    obtain ⟨hi, H⟩ := H
    refine xt_iald dX11_way_122 ho6.1 ho6.2 hi ?_
    refine xt_istore (lv' := [(5, .int (mAI M b5 ((48 * x1) + x5 : Int32).toNatClampNeg)), (0, .ref x0), (1, .int x1), (3, .int x3), (6, .int x6)]) dX11_way_123 (by decide) rfl ?_
    refine xt_iinc (j := 4) (v := x6 + (-1)) (lv' := [(6, .int (x6 + (-1))), (5, .int (mAI M b5 ((48 * x1) + x5 : Int32).toNatClampNeg)), (0, .ref x0), (1, .int x1), (3, .int x3)]) dX11_way_125 rfl (by rfl) (by decide) rfl ?_
    refine xt_goto (tgt := 105) dX11_way_128 (by decide) ?_
    exact xt_sub (lv' := [(0, .ref x0), (1, .int x1), (3, .int x3), (5, .int (mAI M b5 ((48 * x1) + x5 : Int32).toNatClampNeg)), (6, .int (x6 + (-1)))]) [2, 3, 4, 1, 0] rfl H
def DX11_way_35 (h : Nat) (x0 : Nat) (x1 : Int32) (x2 : Int32) (x3 : Int32) (x4 : Int32) (x5 : Int32) (M : Mem) (Q : Option Value → Mem → Prop) : Prop :=
  ok M x0 13 ∧ ∃ b2 : Nat, mR M x0 118 = some b2 ∧ ok M b2 21 ∧ vp_in ((48 * x1) + x5) (mL M b2) ∧ ((mAI M b2 ((48 * x1) + x5 : Int32).toNatClampNeg) = (-1) → (¬ x3 = (-1) → E h mdX11_in [.long ((x3 : Int32).toInt64), .long 0, .long ((x4 - 1 : Int32).toInt64)] M (fun r M4 => mE M M4 → ∃ r5 : Int32, r = some (.int r5) ∧ (¬ r5 = 0 → T (h + 1) mdX11_way 105 [(0, .ref x0), (1, .int x1), (3, .int x3), (5, .int x2), (6, .int (x4 - 1))] [] M4 Q) ∧
  (r5 = 0 → Q (some (.int (-9))) M4))) ∧
  (x3 = (-1) → Q (some (.int x4)) M)) ∧
  (¬ ((mAI M b2 ((48 * x1) + x5 : Int32).toNatClampNeg) = (-1)) → ∃ b6 : Nat, mR M x0 118 = some b6 ∧ ok M b6 21 ∧ vp_in ((48 * x1) + x5) (mL M b6) ∧ T (h + 1) mdX11_way 35 [(0, .ref x0), (1, .int x1), (2, .int x2), (3, .int x3), (4, .int (x4 + 1)), (5, .int (mAI M b6 ((48 * x1) + x5 : Int32).toNatClampNeg))] [] M Q)
set_option maxRecDepth 20000 in
set_option maxHeartbeats 2000000 in
theorem VX11_way_35 {h : Nat} {x0 : Nat} {x1 : Int32} {x2 : Int32} {x3 : Int32} {x4 : Int32} {x5 : Int32} {M : Mem} {Q : Option Value → Mem → Prop} (H : DX11_way_35 h x0 x1 x2 x3 x4 x5 M Q) : T (h + 1) mdX11_way 35 [(0, .ref x0), (1, .int x1), (2, .int x2), (3, .int x3), (4, .int x4), (5, .int x5)] [] M Q := by
  unfold DX11_way_35 at H
  refine xt_aload_n (j := 0) dX11_way_35 rfl rfl ?_
  obtain ⟨ho1, H⟩ := H
  obtain ⟨b2, hb, H⟩ := H
  refine xt_getR dX11_way_36 (flX11_300 rfl) ft_13_118 ho1.1 ho1.2 hb ?_
  refine xt_bipush (v := 48) dX11_way_39 (by decide) ?_
  refine xt_iload_n (j := 1) dX11_way_41 rfl rfl ?_
  refine xt_imul dX11_way_42 ?_
  refine xt_iload (j := 5) dX11_way_43 rfl ?_
  refine xt_iadd dX11_way_45 ?_
  obtain ⟨ho3, H⟩ := H
  obtain ⟨hi, H⟩ := H
  refine xt_iald dX11_way_46 ho3.1 ho3.2 hi ?_
  refine xt_iconst (v := -1) dX11_way_47 (by decide) ?_
  refine xt_icmp_eq (tgt := 71) dX11_way_48 (by decide) (fun hc => ?_) (fun hc => ?_)
  · have H := H.1 hc
    refine xt_iload_n (j := 3) dX11_way_71 rfl rfl ?_
    refine xt_iconst (v := -1) dX11_way_72 (by decide) ?_
    refine xt_icmp_ne (tgt := 79) dX11_way_73 (by decide) (fun hc => ?_) (fun hc => ?_)
    · have H := H.1 hc
      refine xt_iload_n (j := 3) dX11_way_79 rfl rfl ?_
      refine xt_i2l dX11_way_80 ?_
      refine xt_lconst (v := 0) dX11_way_81 (by decide) ?_
      refine xt_iload (j := 4) dX11_way_82 rfl ?_
      refine xt_iconst (v := 1) dX11_way_84 (by decide) ?_
      refine xt_isub dX11_way_85 ?_
      refine xt_i2l dX11_way_86 ?_
      refine xt_callS (h2 := h) (as := [.long ((x3 : Int32).toInt64), .long 0, .long ((x4 - 1 : Int32).toInt64)]) (st := []) dX11_way_87 (mlX11_332 rfl) rfl (by first | decide | (simp [Value.category]; done)) (Nat.le_refl _) H (fun r M4 HH hE => ?_)
      obtain ⟨r5, hr, H⟩ := HH hE
      subst hr
      have ho1 := ok_E ho1 hE
      show T _ _ _ _ [.int r5] _ _
      refine xt_if_ne (tgt := 96) dX11_way_90 (by decide) (fun hc => ?_) (fun hc => ?_)
      · have H := H.1 hc
        refine xt_iload_n (j := 2) dX11_way_96 rfl rfl ?_
        refine xt_istore (lv' := [(5, .int x2), (0, .ref x0), (1, .int x1), (2, .int x2), (3, .int x3), (4, .int x4)]) dX11_way_97 (by decide) rfl ?_
        refine xt_iload (j := 5) dX11_way_99 rfl ?_
        refine xt_iconst (v := 1) dX11_way_101 (by decide) ?_
        refine xt_isub dX11_way_102 ?_
        refine xt_istore (lv' := [(6, .int (x4 - 1)), (5, .int x2), (0, .ref x0), (1, .int x1), (2, .int x2), (3, .int x3), (4, .int x4)]) dX11_way_103 (by decide) rfl ?_
        exact xt_sub (lv' := [(0, .ref x0), (1, .int x1), (3, .int x3), (5, .int x2), (6, .int (x4 - 1))]) [2, 3, 5, 1, 0] rfl H
      · have H := H.2 hc
        refine xt_bipush (v := -9) dX11_way_93 (by decide) ?_
        exact xt_ireturn dX11_way_95 rfl H
    · have H := H.2 hc
      refine xt_iload (j := 4) dX11_way_76 rfl ?_
      exact xt_ireturn dX11_way_78 rfl H
  · have H := H.2 hc
    refine xt_aload_n (j := 0) dX11_way_51 rfl rfl ?_
    obtain ⟨b6, hb, H⟩ := H
    refine xt_getR dX11_way_52 (flX11_300 rfl) ft_13_118 ho1.1 ho1.2 hb ?_
    refine xt_bipush (v := 48) dX11_way_55 (by decide) ?_
    refine xt_iload_n (j := 1) dX11_way_57 rfl rfl ?_
    refine xt_imul dX11_way_58 ?_
    refine xt_iload (j := 5) dX11_way_59 rfl ?_
    refine xt_iadd dX11_way_61 ?_
    obtain ⟨ho7, H⟩ := H
    obtain ⟨hi, H⟩ := H
    refine xt_iald dX11_way_62 ho7.1 ho7.2 hi ?_
    refine xt_istore (lv' := [(5, .int (mAI M b6 ((48 * x1) + x5 : Int32).toNatClampNeg)), (0, .ref x0), (1, .int x1), (2, .int x2), (3, .int x3), (4, .int x4)]) dX11_way_63 (by decide) rfl ?_
    refine xt_iinc (j := 5) (v := x4 + 1) (lv' := [(4, .int (x4 + 1)), (5, .int (mAI M b6 ((48 * x1) + x5 : Int32).toNatClampNeg)), (0, .ref x0), (1, .int x1), (2, .int x2), (3, .int x3)]) dX11_way_65 rfl (by rfl) (by decide) rfl ?_
    refine xt_goto (tgt := 35) dX11_way_68 (by decide) ?_
    exact xt_sub (lv' := [(0, .ref x0), (1, .int x1), (2, .int x2), (3, .int x3), (4, .int (x4 + 1)), (5, .int (mAI M b6 ((48 * x1) + x5 : Int32).toNatClampNeg))]) [2, 3, 4, 5, 0, 1] rfl H
def DX11_way_0 (h : Nat) (x0 : Nat) (x1 : Int32) (x2 : Int32) (x3 : Int32) (M : Mem) (Q : Option Value → Mem → Prop) : Prop :=
  ok M x0 13 ∧ E h mdX11_isSearched [.ref x0, .int x1] M (fun r M2 => mE M M2 → ∃ r3 : Int32, r = some (.int r3) ∧ (r3 = 0 → DX11_way_26 h  M2 Q) ∧
  (¬ (r3 = 0) → ∃ b4 : Nat, mR M2 x0 115 = some b4 ∧ ok M2 b4 21 ∧ vp_in x1 (mL M2 b4) ∧ E h mdX11_in [.long ((x2 : Int32).toInt64), .long 0, .long (((mAI M2 b4 (x1 : Int32).toNatClampNeg) - 1 : Int32).toInt64)] M2 (fun r M6 => mE M2 M6 → ∃ r7 : Int32, r = some (.int r7) ∧ (¬ r7 = 0 → T (h + 1) mdX11_way 35 [(0, .ref x0), (1, .int x1), (2, .int x2), (3, .int x3), (4, .int 0), (5, .int x2)] [] M6 Q) ∧
  (r7 = 0 → DX11_way_26 h  M6 Q))))
set_option maxRecDepth 20000 in
set_option maxHeartbeats 2000000 in
theorem VX11_way_0 {h : Nat} {x0 : Nat} {x1 : Int32} {x2 : Int32} {x3 : Int32} {M : Mem} {Q : Option Value → Mem → Prop} (H : DX11_way_0 h x0 x1 x2 x3 M Q) : T (h + 1) mdX11_way 0 [(0, .ref x0), (1, .int x1), (2, .int x2), (3, .int x3)] [] M Q := by
  unfold DX11_way_0 at H
  refine xt_aload_n (j := 0) dX11_way_0 rfl rfl ?_
  refine xt_iload_n (j := 1) dX11_way_1 rfl rfl ?_
  obtain ⟨ho1, H⟩ := H
  refine xt_callV (h2 := h) (as := [.int x1]) (st := []) dX11_way_2 (mlX11_869 rfl) rfl ho1.1 ⟨by rw [ho1.2]; rfl, by rw [ho1.2]; decide⟩ (by first | decide | (simp [Value.category]; done)) (Nat.le_refl _) H (fun r M2 HH hE => ?_)
  obtain ⟨r3, hr, H⟩ := HH hE
  subst hr
  have ho1 := ok_E ho1 hE
  show T _ _ _ _ [.int r3] _ _
  refine xt_if_eq (tgt := 26) dX11_way_5 (by decide) (fun hc => ?_) (fun hc => ?_)
  · have H := H.1 hc
    exact xt_sub [] rfl (VX11_way_26 H)
  · have H := H.2 hc
    refine xt_iload_n (j := 2) dX11_way_8 rfl rfl ?_
    refine xt_i2l dX11_way_9 ?_
    refine xt_lconst (v := 0) dX11_way_10 (by decide) ?_
    refine xt_aload_n (j := 0) dX11_way_11 rfl rfl ?_
    obtain ⟨b4, hb, H⟩ := H
    refine xt_getR dX11_way_12 (flX11_291 rfl) ft_13_115 ho1.1 ho1.2 hb ?_
    refine xt_iload_n (j := 1) dX11_way_15 rfl rfl ?_
    obtain ⟨ho5, H⟩ := H
    obtain ⟨hi, H⟩ := H
    refine xt_iald dX11_way_16 ho5.1 ho5.2 hi ?_
    refine xt_iconst (v := 1) dX11_way_17 (by decide) ?_
    refine xt_isub dX11_way_18 ?_
    refine xt_i2l dX11_way_19 ?_
    refine xt_callS (h2 := h) (as := [.long ((x2 : Int32).toInt64), .long 0, .long (((mAI M2 b4 (x1 : Int32).toNatClampNeg) - 1 : Int32).toInt64)]) (st := []) dX11_way_20 (mlX11_332 rfl) rfl (by first | decide | (simp [Value.category]; done)) (Nat.le_refl _) H (fun r M6 HH hE => ?_)
    obtain ⟨r7, hr, H⟩ := HH hE
    subst hr
    have ho1 := ok_E ho1 hE
    show T _ _ _ _ [.int r7] _ _
    refine xt_if_ne (tgt := 29) dX11_way_23 (by decide) (fun hc => ?_) (fun hc => ?_)
    · have H := H.1 hc
      refine xt_iconst (v := 0) dX11_way_29 (by decide) ?_
      refine xt_istore (lv' := [(4, .int 0), (0, .ref x0), (1, .int x1), (2, .int x2), (3, .int x3)]) dX11_way_30 (by decide) rfl ?_
      refine xt_iload_n (j := 3) dX11_way_32 rfl rfl ?_
      refine xt_istore (lv' := [(5, .int x2), (4, .int 0), (0, .ref x0), (1, .int x1), (2, .int x2), (3, .int x3)]) dX11_way_33 (by decide) rfl ?_
      exact xt_sub (lv' := [(0, .ref x0), (1, .int x1), (2, .int x2), (3, .int x3), (4, .int 0), (5, .int x2)]) [2, 3, 4, 5, 1, 0] rfl H
    · have H := H.2 hc
      exact xt_sub [] rfl (VX11_way_26 H)
theorem KX11_way {h : Nat} {x0 : Nat} {x1 : Int32} {x2 : Int32} {x3 : Int32} {M : Mem} {Q : Option Value → Mem → Prop} (H : DX11_way_0 h x0 x1 x2 x3 M Q) : E (h + 1) mdX11_way [.ref x0, .int x1, .int x2, .int x3] M Q := E.of (by decide) (Nat.le_of_ble_eq_true rfl) (fun _ _ _ => trivial) (VX11_way_0 H)
def DX11_seek_134 (h : Nat) (s0 : Int32) (M : Mem) (Q : Option Value → Mem → Prop) : Prop :=
  Q (some (.int s0)) M
set_option maxRecDepth 20000 in
set_option maxHeartbeats 2000000 in
theorem VX11_seek_134 {h : Nat} {s0 : Int32} {M : Mem} {Q : Option Value → Mem → Prop} (H : DX11_seek_134 h s0 M Q) : T (h + 1) mdX11_seek 134 [] [.int s0] M Q := by
  unfold DX11_seek_134 at H
  exact xt_ireturn dX11_seek_134 rfl H
def DX11_seek_121 (h : Nat) (x0 : Nat) (M : Mem) (Q : Option Value → Mem → Prop) : Prop :=
  ok M x0 13 ∧ (¬ (mI M x0 123) = (-1) → DX11_seek_134 h 0 M Q) ∧
  ((mI M x0 123) = (-1) → DX11_seek_134 h 1 M Q)
set_option maxRecDepth 20000 in
set_option maxHeartbeats 2000000 in
theorem VX11_seek_121 {h : Nat} {x0 : Nat} {M : Mem} {Q : Option Value → Mem → Prop} (H : DX11_seek_121 h x0 M Q) : T (h + 1) mdX11_seek 121 [(0, .ref x0)] [] M Q := by
  unfold DX11_seek_121 at H
  refine xt_aload_n (j := 0) dX11_seek_121 rfl rfl ?_
  obtain ⟨ho1, H⟩ := H
  refine xt_getI dX11_seek_122 (flX11_315 rfl) ft_13_123 ho1.1 ho1.2 ?_
  refine xt_iconst (v := -1) dX11_seek_125 (by decide) ?_
  refine xt_icmp_ne (tgt := 133) dX11_seek_126 (by decide) (fun hc => ?_) (fun hc => ?_)
  · have H := H.1 hc
    refine xt_iconst (v := 0) dX11_seek_133 (by decide) ?_
    exact xt_sub [] rfl (VX11_seek_134 H)
  · have H := H.2 hc
    refine xt_iconst (v := 1) dX11_seek_129 (by decide) ?_
    refine xt_goto (tgt := 134) dX11_seek_130 (by decide) ?_
    exact xt_sub [] rfl (VX11_seek_134 H)
def DX11_seek_115 (h : Nat) (x0 : Nat) (x1 : Int32) (x2 : Int32) (x3 : Int32) (x4 : Int32) (M : Mem) (Q : Option Value → Mem → Prop) : Prop :=
  T (h + 1) mdX11_seek 13 [(0, .ref x0), (1, .int x1), (2, .int x2), (3, .int x3), (4, .int (x4 + 1))] [] M Q
set_option maxRecDepth 20000 in
set_option maxHeartbeats 2000000 in
theorem VX11_seek_115 {h : Nat} {x0 : Nat} {x1 : Int32} {x2 : Int32} {x3 : Int32} {x4 : Int32} {M : Mem} {Q : Option Value → Mem → Prop} (H : DX11_seek_115 h x0 x1 x2 x3 x4 M Q) : T (h + 1) mdX11_seek 115 [(0, .ref x0), (1, .int x1), (2, .int x2), (3, .int x3), (4, .int x4)] [] M Q := by
  unfold DX11_seek_115 at H
  refine xt_iinc (j := 4) (v := x4 + 1) (lv' := [(4, .int (x4 + 1)), (0, .ref x0), (1, .int x1), (2, .int x2), (3, .int x3)]) dX11_seek_115 rfl (by rfl) (by decide) rfl ?_
  refine xt_goto (tgt := 13) dX11_seek_118 (by decide) ?_
  exact xt_sub (lv' := [(0, .ref x0), (1, .int x1), (2, .int x2), (3, .int x3), (4, .int (x4 + 1))]) [1, 2, 3, 4, 0] rfl H
def DX11_seek_109 (h : Nat) (x0 : Nat) (x1 : Int32) (x2 : Int32) (x3 : Int32) (x4 : Int32) (x5 : Int32) (M : Mem) (Q : Option Value → Mem → Prop) : Prop :=
  T (h + 1) mdX11_seek 35 [(0, .ref x0), (1, .int x1), (2, .int x2), (3, .int x3), (4, .int x4), (5, .int (x5 + 1))] [] M Q
set_option maxRecDepth 20000 in
set_option maxHeartbeats 2000000 in
theorem VX11_seek_109 {h : Nat} {x0 : Nat} {x1 : Int32} {x2 : Int32} {x3 : Int32} {x4 : Int32} {x5 : Int32} {M : Mem} {Q : Option Value → Mem → Prop} (H : DX11_seek_109 h x0 x1 x2 x3 x4 x5 M Q) : T (h + 1) mdX11_seek 109 [(0, .ref x0), (1, .int x1), (2, .int x2), (3, .int x3), (4, .int x4), (5, .int x5)] [] M Q := by
  unfold DX11_seek_109 at H
  refine xt_iinc (j := 5) (v := x5 + 1) (lv' := [(5, .int (x5 + 1)), (0, .ref x0), (1, .int x1), (2, .int x2), (3, .int x3), (4, .int x4)]) dX11_seek_109 rfl (by rfl) (by decide) rfl ?_
  refine xt_goto (tgt := 35) dX11_seek_112 (by decide) ?_
  exact xt_sub (lv' := [(0, .ref x0), (1, .int x1), (2, .int x2), (3, .int x3), (4, .int x4), (5, .int (x5 + 1))]) [1, 2, 3, 4, 5, 0] rfl H
def DX11_seek_97 (h : Nat) (x0 : Nat) (x1 : Int32) (x2 : Int32) (x3 : Int32) (x4 : Int32) (x5 : Int32) (M : Mem) (Q : Option Value → Mem → Prop) : Prop :=
  ok M x0 13 ∧ ∀ M2 : Mem, M2 = wI M x0 123 x4 →
  ∀ M3 : Mem, M3 = wI M2 x0 124 x5 →
  DX11_seek_109 h x0 x1 x2 x3 x4 x5 M3 Q
set_option maxRecDepth 20000 in
set_option maxHeartbeats 2000000 in
theorem VX11_seek_97 {h : Nat} {x0 : Nat} {x1 : Int32} {x2 : Int32} {x3 : Int32} {x4 : Int32} {x5 : Int32} {M : Mem} {Q : Option Value → Mem → Prop} (H : DX11_seek_97 h x0 x1 x2 x3 x4 x5 M Q) : T (h + 1) mdX11_seek 97 [(0, .ref x0), (1, .int x1), (2, .int x2), (3, .int x3), (4, .int x4), (5, .int x5)] [] M Q := by
  unfold DX11_seek_97 at H
  refine xt_aload_n (j := 0) dX11_seek_97 rfl rfl ?_
  refine xt_iload (j := 4) dX11_seek_98 rfl ?_
  obtain ⟨ho1, H⟩ := H
  obtain ⟨M2, eM2⟩ : ∃ z, z = wI M x0 123 x4 := ⟨_, rfl⟩
  have H := H _ eM2
  refine xt_putI dX11_seek_100 (flX11_315 rfl) ty_13_123 rfl ho1.1 ho1.2 ?_
  have ho1 : ok M2 x0 13 := by rw [eM2]; exact ho1
  rw [← eM2]
  refine xt_aload_n (j := 0) dX11_seek_103 rfl rfl ?_
  refine xt_iload (j := 5) dX11_seek_104 rfl ?_
  obtain ⟨M3, eM3⟩ : ∃ z, z = wI M2 x0 124 x5 := ⟨_, rfl⟩
  have H := H _ eM3
  refine xt_putI dX11_seek_106 (flX11_319 rfl) ty_13_124 rfl ho1.1 ho1.2 ?_
  have ho1 : ok M3 x0 13 := by rw [eM3]; exact ho1
  rw [← eM3]
  exact xt_sub [0, 1, 2, 3, 4, 5] rfl (VX11_seek_109 H)
def DX11_seek_35 (h : Nat) (x0 : Nat) (x1 : Int32) (x2 : Int32) (x3 : Int32) (x4 : Int32) (x5 : Int32) (M : Mem) (Q : Option Value → Mem → Prop) : Prop :=
  ok M x0 13 ∧ E h mdX11_moves [.ref x0, .int x1] M (fun r M2 => mE M M2 → ∃ r3 : Int32, r = some (.int r3) ∧ (r3 ≤ x5 → DX11_seek_115 h x0 x1 x2 x3 x4 M2 Q) ∧
  (¬ (r3 ≤ x5) → (¬ (mI M2 x0 123) = (-1) → DX11_seek_115 h x0 x1 x2 x3 x4 M2 Q) ∧
  ((mI M2 x0 123) = (-1) → ∃ b4 : Nat, mR M2 x0 122 = some b4 ∧ ok M2 b4 21 ∧ vp_in ((32 * ((48 * x1) + x4)) + x5) (mL M2 b4) ∧ (¬ (((mAI M2 b4 ((32 * ((48 * x1) + x4)) + x5 : Int32).toNatClampNeg) >>> (x2 &&& 31)) &&& 1) = 1 → DX11_seek_109 h x0 x1 x2 x3 x4 x5 M2 Q) ∧
  ((((mAI M2 b4 ((32 * ((48 * x1) + x4)) + x5 : Int32).toNatClampNeg) >>> (x2 &&& 31)) &&& 1) = 1 → (x3 = (-1) → DX11_seek_97 h x0 x1 x2 x3 x4 x5 M2 Q) ∧
  (¬ (x3 = (-1)) → (¬ (((mAI M2 b4 ((32 * ((48 * x1) + x4)) + x5 : Int32).toNatClampNeg) >>> (x3 &&& 31)) &&& 1) = 0 → DX11_seek_109 h x0 x1 x2 x3 x4 x5 M2 Q) ∧
  ((((mAI M2 b4 ((32 * ((48 * x1) + x4)) + x5 : Int32).toNatClampNeg) >>> (x3 &&& 31)) &&& 1) = 0 → DX11_seek_97 h x0 x1 x2 x3 x4 x5 M2 Q))))))
set_option maxRecDepth 20000 in
set_option maxHeartbeats 2000000 in
theorem VX11_seek_35 {h : Nat} {x0 : Nat} {x1 : Int32} {x2 : Int32} {x3 : Int32} {x4 : Int32} {x5 : Int32} {M : Mem} {Q : Option Value → Mem → Prop} (H : DX11_seek_35 h x0 x1 x2 x3 x4 x5 M Q) : T (h + 1) mdX11_seek 35 [(0, .ref x0), (1, .int x1), (2, .int x2), (3, .int x3), (4, .int x4), (5, .int x5)] [] M Q := by
  unfold DX11_seek_35 at H
  refine xt_iload (j := 5) dX11_seek_35 rfl ?_
  refine xt_aload_n (j := 0) dX11_seek_37 rfl rfl ?_
  refine xt_iload_n (j := 1) dX11_seek_38 rfl rfl ?_
  obtain ⟨ho1, H⟩ := H
  refine xt_callV (h2 := h) (as := [.int x1]) (st := [.int x5]) dX11_seek_39 (mlX11_849 rfl) rfl ho1.1 ⟨by rw [ho1.2]; rfl, by rw [ho1.2]; decide⟩ (by first | decide | (simp [Value.category]; done)) (Nat.le_refl _) H (fun r M2 HH hE => ?_)
  obtain ⟨r3, hr, H⟩ := HH hE
  subst hr
  have ho1 := ok_E ho1 hE
  show T _ _ _ _ [.int r3, .int x5] _ _
  refine xt_icmp_ge (tgt := 115) dX11_seek_42 (by decide) (fun hc => ?_) (fun hc => ?_)
  · have H := H.1 hc
    exact xt_sub [0, 1, 2, 3, 4] rfl (VX11_seek_115 H)
  · have H := H.2 hc
    refine xt_aload_n (j := 0) dX11_seek_45 rfl rfl ?_
    refine xt_getI dX11_seek_46 (flX11_315 rfl) ft_13_123 ho1.1 ho1.2 ?_
    refine xt_iconst (v := -1) dX11_seek_49 (by decide) ?_
    refine xt_icmp_ne (tgt := 115) dX11_seek_50 (by decide) (fun hc => ?_) (fun hc => ?_)
    · have H := H.1 hc
      exact xt_sub [0, 1, 2, 3, 4] rfl (VX11_seek_115 H)
    · have H := H.2 hc
      refine xt_aload_n (j := 0) dX11_seek_53 rfl rfl ?_
      obtain ⟨b4, hb, H⟩ := H
      refine xt_getR dX11_seek_54 (flX11_312 rfl) ft_13_122 ho1.1 ho1.2 hb ?_
      refine xt_bipush (v := 32) dX11_seek_57 (by decide) ?_
      refine xt_bipush (v := 48) dX11_seek_59 (by decide) ?_
      refine xt_iload_n (j := 1) dX11_seek_61 rfl rfl ?_
      refine xt_imul dX11_seek_62 ?_
      refine xt_iload (j := 4) dX11_seek_63 rfl ?_
      refine xt_iadd dX11_seek_65 ?_
      refine xt_imul dX11_seek_66 ?_
      refine xt_iload (j := 5) dX11_seek_67 rfl ?_
      refine xt_iadd dX11_seek_69 ?_
      obtain ⟨ho5, H⟩ := H
      obtain ⟨hi, H⟩ := H
      refine xt_iald dX11_seek_70 ho5.1 ho5.2 hi ?_
      refine xt_istore (lv' := [(6, .int (mAI M2 b4 ((32 * ((48 * x1) + x4)) + x5 : Int32).toNatClampNeg)), (0, .ref x0), (1, .int x1), (2, .int x2), (3, .int x3), (4, .int x4), (5, .int x5)]) dX11_seek_71 (by decide) rfl ?_
      refine xt_iload (j := 0) dX11_seek_73 rfl ?_
      refine xt_iload_n (j := 3) dX11_seek_75 rfl rfl ?_
      refine xt_ishr dX11_seek_76 ?_
      refine xt_iconst (v := 1) dX11_seek_77 (by decide) ?_
      refine xt_iand dX11_seek_78 ?_
      refine xt_iconst (v := 1) dX11_seek_79 (by decide) ?_
      refine xt_icmp_ne (tgt := 109) dX11_seek_80 (by decide) (fun hc => ?_) (fun hc => ?_)
      · have H := H.1 hc
        exact xt_sub [1, 2, 3, 4, 5, 6] rfl (VX11_seek_109 H)
      · have H := H.2 hc
        refine xt_iload_n (j := 4) dX11_seek_83 rfl rfl ?_
        refine xt_iconst (v := -1) dX11_seek_84 (by decide) ?_
        refine xt_icmp_eq (tgt := 97) dX11_seek_85 (by decide) (fun hc => ?_) (fun hc => ?_)
        · have H := H.1 hc
          exact xt_sub [1, 2, 3, 4, 5, 6] rfl (VX11_seek_97 H)
        · have H := H.2 hc
          refine xt_iload (j := 0) dX11_seek_88 rfl ?_
          refine xt_iload_n (j := 4) dX11_seek_90 rfl rfl ?_
          refine xt_ishr dX11_seek_91 ?_
          refine xt_iconst (v := 1) dX11_seek_92 (by decide) ?_
          refine xt_iand dX11_seek_93 ?_
          refine xt_if_ne (tgt := 109) dX11_seek_94 (by decide) (fun hc => ?_) (fun hc => ?_)
          · have H := H.1 hc
            exact xt_sub [1, 2, 3, 4, 5, 6] rfl (VX11_seek_109 H)
          · have H := H.2 hc
            exact xt_sub [1, 2, 3, 4, 5, 6] rfl (VX11_seek_97 H)
def DX11_seek_13 (h : Nat) (x0 : Nat) (x1 : Int32) (x2 : Int32) (x3 : Int32) (x4 : Int32) (M : Mem) (Q : Option Value → Mem → Prop) : Prop :=
  ok M x0 13 ∧ ∃ b2 : Nat, mR M x0 115 = some b2 ∧ ok M b2 21 ∧ vp_in x1 (mL M b2) ∧ ((mAI M b2 (x1 : Int32).toNatClampNeg) ≤ x4 → DX11_seek_121 h x0 M Q) ∧
  (¬ ((mAI M b2 (x1 : Int32).toNatClampNeg) ≤ x4) → (¬ (mI M x0 123) = (-1) → DX11_seek_121 h x0 M Q) ∧
  ((mI M x0 123) = (-1) → T (h + 1) mdX11_seek 35 [(0, .ref x0), (1, .int x1), (2, .int x2), (3, .int x3), (4, .int x4), (5, .int 0)] [] M Q))
set_option maxRecDepth 20000 in
set_option maxHeartbeats 2000000 in
theorem VX11_seek_13 {h : Nat} {x0 : Nat} {x1 : Int32} {x2 : Int32} {x3 : Int32} {x4 : Int32} {M : Mem} {Q : Option Value → Mem → Prop} (H : DX11_seek_13 h x0 x1 x2 x3 x4 M Q) : T (h + 1) mdX11_seek 13 [(0, .ref x0), (1, .int x1), (2, .int x2), (3, .int x3), (4, .int x4)] [] M Q := by
  unfold DX11_seek_13 at H
  refine xt_iload (j := 4) dX11_seek_13 rfl ?_
  refine xt_aload_n (j := 0) dX11_seek_15 rfl rfl ?_
  obtain ⟨ho1, H⟩ := H
  obtain ⟨b2, hb, H⟩ := H
  refine xt_getR dX11_seek_16 (flX11_291 rfl) ft_13_115 ho1.1 ho1.2 hb ?_
  refine xt_iload_n (j := 1) dX11_seek_19 rfl rfl ?_
  obtain ⟨ho3, H⟩ := H
  obtain ⟨hi, H⟩ := H
  refine xt_iald dX11_seek_20 ho3.1 ho3.2 hi ?_
  refine xt_icmp_ge (tgt := 121) dX11_seek_21 (by decide) (fun hc => ?_) (fun hc => ?_)
  · have H := H.1 hc
    exact xt_sub [0] rfl (VX11_seek_121 H)
  · have H := H.2 hc
    refine xt_aload_n (j := 0) dX11_seek_24 rfl rfl ?_
    refine xt_getI dX11_seek_25 (flX11_315 rfl) ft_13_123 ho1.1 ho1.2 ?_
    refine xt_iconst (v := -1) dX11_seek_28 (by decide) ?_
    refine xt_icmp_ne (tgt := 121) dX11_seek_29 (by decide) (fun hc => ?_) (fun hc => ?_)
    · have H := H.1 hc
      exact xt_sub [0] rfl (VX11_seek_121 H)
    · have H := H.2 hc
      refine xt_iconst (v := 0) dX11_seek_32 (by decide) ?_
      refine xt_istore (lv' := [(5, .int 0), (0, .ref x0), (1, .int x1), (2, .int x2), (3, .int x3), (4, .int x4)]) dX11_seek_33 (by decide) rfl ?_
      exact xt_sub (lv' := [(0, .ref x0), (1, .int x1), (2, .int x2), (3, .int x3), (4, .int x4), (5, .int 0)]) [1, 2, 3, 4, 5, 0] rfl H
def DX11_seek_0 (h : Nat) (x0 : Nat) (x1 : Int32) (x2 : Int32) (x3 : Int32) (M : Mem) (Q : Option Value → Mem → Prop) : Prop :=
  ok M x0 13 ∧ ∀ M2 : Mem, M2 = wI M x0 123 (-1) →
  ∀ M3 : Mem, M3 = wI M2 x0 124 (-1) →
  T (h + 1) mdX11_seek 13 [(0, .ref x0), (1, .int x1), (2, .int x2), (3, .int x3), (4, .int 0)] [] M3 Q
set_option maxRecDepth 20000 in
set_option maxHeartbeats 2000000 in
theorem VX11_seek_0 {h : Nat} {x0 : Nat} {x1 : Int32} {x2 : Int32} {x3 : Int32} {M : Mem} {Q : Option Value → Mem → Prop} (H : DX11_seek_0 h x0 x1 x2 x3 M Q) : T (h + 1) mdX11_seek 0 [(0, .ref x0), (1, .int x1), (2, .int x2), (3, .int x3)] [] M Q := by
  unfold DX11_seek_0 at H
  refine xt_aload_n (j := 0) dX11_seek_0 rfl rfl ?_
  refine xt_iconst (v := -1) dX11_seek_1 (by decide) ?_
  obtain ⟨ho1, H⟩ := H
  obtain ⟨M2, eM2⟩ : ∃ z, z = wI M x0 123 (-1) := ⟨_, rfl⟩
  have H := H _ eM2
  refine xt_putI dX11_seek_2 (flX11_315 rfl) ty_13_123 rfl ho1.1 ho1.2 ?_
  have ho1 : ok M2 x0 13 := by rw [eM2]; exact ho1
  rw [← eM2]
  refine xt_aload_n (j := 0) dX11_seek_5 rfl rfl ?_
  refine xt_iconst (v := -1) dX11_seek_6 (by decide) ?_
  obtain ⟨M3, eM3⟩ : ∃ z, z = wI M2 x0 124 (-1) := ⟨_, rfl⟩
  have H := H _ eM3
  refine xt_putI dX11_seek_7 (flX11_319 rfl) ty_13_124 rfl ho1.1 ho1.2 ?_
  have ho1 : ok M3 x0 13 := by rw [eM3]; exact ho1
  rw [← eM3]
  refine xt_iconst (v := 0) dX11_seek_10 (by decide) ?_
  refine xt_istore (lv' := [(4, .int 0), (0, .ref x0), (1, .int x1), (2, .int x2), (3, .int x3)]) dX11_seek_11 (by decide) rfl ?_
  exact xt_sub (lv' := [(0, .ref x0), (1, .int x1), (2, .int x2), (3, .int x3), (4, .int 0)]) [1, 2, 3, 4, 0] rfl H
theorem KX11_seek {h : Nat} {x0 : Nat} {x1 : Int32} {x2 : Int32} {x3 : Int32} {M : Mem} {Q : Option Value → Mem → Prop} (H : DX11_seek_0 h x0 x1 x2 x3 M Q) : E (h + 1) mdX11_seek [.ref x0, .int x1, .int x2, .int x3] M Q := E.of (by decide) (Nat.le_of_ble_eq_true rfl) (fun _ _ _ => trivial) (VX11_seek_0 H)
def DX11_never_38 (h : Nat) (s0 : Int32) (M : Mem) (Q : Option Value → Mem → Prop) : Prop :=
  Q (some (.int s0)) M
set_option maxRecDepth 20000 in
set_option maxHeartbeats 2000000 in
theorem VX11_never_38 {h : Nat} {s0 : Int32} {M : Mem} {Q : Option Value → Mem → Prop} (H : DX11_never_38 h s0 M Q) : T (h + 1) mdX11_never 38 [] [.int s0] M Q := by
  unfold DX11_never_38 at H
  exact xt_ireturn dX11_never_38 rfl H
def DX11_never_36 (h : Nat) (M : Mem) (Q : Option Value → Mem → Prop) : Prop :=
  DX11_never_38 h (-9) M Q
set_option maxRecDepth 20000 in
set_option maxHeartbeats 2000000 in
theorem VX11_never_36 {h : Nat} {M : Mem} {Q : Option Value → Mem → Prop} (H : DX11_never_36 h  M Q) : T (h + 1) mdX11_never 36 [] [] M Q := by
  unfold DX11_never_36 at H
  refine xt_bipush (v := -9) dX11_never_36 (by decide) ?_
  exact xt_sub [] rfl (VX11_never_38 H)
def DX11_never_0 (h : Nat) (x0 : Nat) (x1 : Int32) (x2 : Int32) (M : Mem) (Q : Option Value → Mem → Prop) : Prop :=
  ok M x0 13 ∧ E h mdX11_isSearched [.ref x0, .int x1] M (fun r M2 => mE M M2 → ∃ r3 : Int32, r = some (.int r3) ∧ (r3 = 0 → DX11_never_36 h  M2 Q) ∧
  (¬ (r3 = 0) → ∃ b4 : Nat, mR M2 x0 8 = some b4 ∧ ok M2 b4 21 ∧ vp_in x1 (mL M2 b4) ∧ E h mdX11_in [.long ((x2 : Int32).toInt64), .long 0, .long (((mAI M2 b4 (x1 : Int32).toNatClampNeg) - 1 : Int32).toInt64)] M2 (fun r M6 => mE M2 M6 → ∃ r7 : Int32, r = some (.int r7) ∧ (r7 = 0 → DX11_never_36 h  M6 Q) ∧
  (¬ (r7 = 0) → E h mdX11_seeks [.ref x0, .int x1, .int x2, .int (-1)] M6 (fun r M8 => mE M6 M8 → ∃ r9 : Int32, r = some (.int r9) ∧ DX11_never_38 h r9 M8 Q)))))
set_option maxRecDepth 20000 in
set_option maxHeartbeats 2000000 in
theorem VX11_never_0 {h : Nat} {x0 : Nat} {x1 : Int32} {x2 : Int32} {M : Mem} {Q : Option Value → Mem → Prop} (H : DX11_never_0 h x0 x1 x2 M Q) : T (h + 1) mdX11_never 0 [(0, .ref x0), (1, .int x1), (2, .int x2)] [] M Q := by
  unfold DX11_never_0 at H
  refine xt_aload_n (j := 0) dX11_never_0 rfl rfl ?_
  refine xt_iload_n (j := 1) dX11_never_1 rfl rfl ?_
  obtain ⟨ho1, H⟩ := H
  refine xt_callV (h2 := h) (as := [.int x1]) (st := []) dX11_never_2 (mlX11_869 rfl) rfl ho1.1 ⟨by rw [ho1.2]; rfl, by rw [ho1.2]; decide⟩ (by first | decide | (simp [Value.category]; done)) (Nat.le_refl _) H (fun r M2 HH hE => ?_)
  obtain ⟨r3, hr, H⟩ := HH hE
  subst hr
  have ho1 := ok_E ho1 hE
  show T _ _ _ _ [.int r3] _ _
  refine xt_if_eq (tgt := 36) dX11_never_5 (by decide) (fun hc => ?_) (fun hc => ?_)
  · have H := H.1 hc
    exact xt_sub [] rfl (VX11_never_36 H)
  · have H := H.2 hc
    refine xt_iload_n (j := 2) dX11_never_8 rfl rfl ?_
    refine xt_i2l dX11_never_9 ?_
    refine xt_lconst (v := 0) dX11_never_10 (by decide) ?_
    refine xt_aload_n (j := 0) dX11_never_11 rfl rfl ?_
    obtain ⟨b4, hb, H⟩ := H
    refine xt_getR dX11_never_12 (flX11_23 rfl) ft_13_8 ho1.1 ho1.2 hb ?_
    refine xt_iload_n (j := 1) dX11_never_15 rfl rfl ?_
    obtain ⟨ho5, H⟩ := H
    obtain ⟨hi, H⟩ := H
    refine xt_iald dX11_never_16 ho5.1 ho5.2 hi ?_
    refine xt_iconst (v := 1) dX11_never_17 (by decide) ?_
    refine xt_isub dX11_never_18 ?_
    refine xt_i2l dX11_never_19 ?_
    refine xt_callS (h2 := h) (as := [.long ((x2 : Int32).toInt64), .long 0, .long (((mAI M2 b4 (x1 : Int32).toNatClampNeg) - 1 : Int32).toInt64)]) (st := []) dX11_never_20 (mlX11_332 rfl) rfl (by first | decide | (simp [Value.category]; done)) (Nat.le_refl _) H (fun r M6 HH hE => ?_)
    obtain ⟨r7, hr, H⟩ := HH hE
    subst hr
    have ho1 := ok_E ho1 hE
    show T _ _ _ _ [.int r7] _ _
    refine xt_if_eq (tgt := 36) dX11_never_23 (by decide) (fun hc => ?_) (fun hc => ?_)
    · have H := H.1 hc
      exact xt_sub [] rfl (VX11_never_36 H)
    · have H := H.2 hc
      refine xt_aload_n (j := 0) dX11_never_26 rfl rfl ?_
      refine xt_iload_n (j := 1) dX11_never_27 rfl rfl ?_
      refine xt_iload_n (j := 2) dX11_never_28 rfl rfl ?_
      refine xt_iconst (v := -1) dX11_never_29 (by decide) ?_
      refine xt_callV (h2 := h) (as := [.int x1, .int x2, .int (-1)]) (st := []) dX11_never_30 (mlX11_872 rfl) rfl ho1.1 ⟨by rw [ho1.2]; rfl, by rw [ho1.2]; decide⟩ (by first | decide | (simp [Value.category]; done)) (Nat.le_refl _) H (fun r M8 HH hE => ?_)
      obtain ⟨r9, hr, H⟩ := HH hE
      subst hr
      have ho1 := ok_E ho1 hE
      show T _ _ _ _ [.int r9] _ _
      refine xt_goto (tgt := 38) dX11_never_33 (by decide) ?_
      exact xt_sub [] rfl (VX11_never_38 H)
theorem KX11_never {h : Nat} {x0 : Nat} {x1 : Int32} {x2 : Int32} {M : Mem} {Q : Option Value → Mem → Prop} (H : DX11_never_0 h x0 x1 x2 M Q) : E (h + 1) mdX11_never [.ref x0, .int x1, .int x2] M Q := E.of (by decide) (Nat.le_of_ble_eq_true rfl) (fun _ _ _ => trivial) (VX11_never_0 H)
def DX11_always_56 (h : Nat) (s0 : Int32) (M : Mem) (Q : Option Value → Mem → Prop) : Prop :=
  Q (some (.int s0)) M
set_option maxRecDepth 20000 in
set_option maxHeartbeats 2000000 in
theorem VX11_always_56 {h : Nat} {s0 : Int32} {M : Mem} {Q : Option Value → Mem → Prop} (H : DX11_always_56 h s0 M Q) : T (h + 1) mdX11_always 56 [] [.int s0] M Q := by
  unfold DX11_always_56 at H
  exact xt_ireturn dX11_always_56 rfl H
def DX11_always_54 (h : Nat) (M : Mem) (Q : Option Value → Mem → Prop) : Prop :=
  DX11_always_56 h (-9) M Q
set_option maxRecDepth 20000 in
set_option maxHeartbeats 2000000 in
theorem VX11_always_54 {h : Nat} {M : Mem} {Q : Option Value → Mem → Prop} (H : DX11_always_54 h  M Q) : T (h + 1) mdX11_always 54 [] [] M Q := by
  unfold DX11_always_54 at H
  refine xt_bipush (v := -9) dX11_always_54 (by decide) ?_
  exact xt_sub [] rfl (VX11_always_56 H)
def DX11_always_0 (h : Nat) (x0 : Nat) (x1 : Int32) (x2 : Int32) (x3 : Int32) (M : Mem) (Q : Option Value → Mem → Prop) : Prop :=
  ok M x0 13 ∧ E h mdX11_isSearched [.ref x0, .int x1] M (fun r M2 => mE M M2 → ∃ r3 : Int32, r = some (.int r3) ∧ (r3 = 0 → DX11_always_54 h  M2 Q) ∧
  (¬ (r3 = 0) → ∃ b4 : Nat, mR M2 x0 8 = some b4 ∧ ok M2 b4 21 ∧ vp_in x1 (mL M2 b4) ∧ E h mdX11_in [.long ((x2 : Int32).toInt64), .long 0, .long (((mAI M2 b4 (x1 : Int32).toNatClampNeg) - 1 : Int32).toInt64)] M2 (fun r M6 => mE M2 M6 → ∃ r7 : Int32, r = some (.int r7) ∧ (r7 = 0 → DX11_always_54 h  M6 Q) ∧
  (¬ (r7 = 0) → ∃ b8 : Nat, mR M6 x0 8 = some b8 ∧ ok M6 b8 21 ∧ vp_in x1 (mL M6 b8) ∧ E h mdX11_in [.long ((x3 : Int32).toInt64), .long 0, .long (((mAI M6 b8 (x1 : Int32).toNatClampNeg) - 1 : Int32).toInt64)] M6 (fun r M10 => mE M6 M10 → ∃ r11 : Int32, r = some (.int r11) ∧ (r11 = 0 → DX11_always_54 h  M10 Q) ∧
  (¬ (r11 = 0) → E h mdX11_seeks [.ref x0, .int x1, .int x2, .int x3] M10 (fun r M12 => mE M10 M12 → ∃ r13 : Int32, r = some (.int r13) ∧ DX11_always_56 h r13 M12 Q)))))))
set_option maxRecDepth 20000 in
set_option maxHeartbeats 2000000 in
theorem VX11_always_0 {h : Nat} {x0 : Nat} {x1 : Int32} {x2 : Int32} {x3 : Int32} {M : Mem} {Q : Option Value → Mem → Prop} (H : DX11_always_0 h x0 x1 x2 x3 M Q) : T (h + 1) mdX11_always 0 [(0, .ref x0), (1, .int x1), (2, .int x2), (3, .int x3)] [] M Q := by
  unfold DX11_always_0 at H
  refine xt_aload_n (j := 0) dX11_always_0 rfl rfl ?_
  refine xt_iload_n (j := 1) dX11_always_1 rfl rfl ?_
  obtain ⟨ho1, H⟩ := H
  refine xt_callV (h2 := h) (as := [.int x1]) (st := []) dX11_always_2 (mlX11_869 rfl) rfl ho1.1 ⟨by rw [ho1.2]; rfl, by rw [ho1.2]; decide⟩ (by first | decide | (simp [Value.category]; done)) (Nat.le_refl _) H (fun r M2 HH hE => ?_)
  obtain ⟨r3, hr, H⟩ := HH hE
  subst hr
  have ho1 := ok_E ho1 hE
  show T _ _ _ _ [.int r3] _ _
  refine xt_if_eq (tgt := 54) dX11_always_5 (by decide) (fun hc => ?_) (fun hc => ?_)
  · have H := H.1 hc
    exact xt_sub [] rfl (VX11_always_54 H)
  · have H := H.2 hc
    refine xt_iload_n (j := 2) dX11_always_8 rfl rfl ?_
    refine xt_i2l dX11_always_9 ?_
    refine xt_lconst (v := 0) dX11_always_10 (by decide) ?_
    refine xt_aload_n (j := 0) dX11_always_11 rfl rfl ?_
    obtain ⟨b4, hb, H⟩ := H
    refine xt_getR dX11_always_12 (flX11_23 rfl) ft_13_8 ho1.1 ho1.2 hb ?_
    refine xt_iload_n (j := 1) dX11_always_15 rfl rfl ?_
    obtain ⟨ho5, H⟩ := H
    obtain ⟨hi, H⟩ := H
    refine xt_iald dX11_always_16 ho5.1 ho5.2 hi ?_
    refine xt_iconst (v := 1) dX11_always_17 (by decide) ?_
    refine xt_isub dX11_always_18 ?_
    refine xt_i2l dX11_always_19 ?_
    refine xt_callS (h2 := h) (as := [.long ((x2 : Int32).toInt64), .long 0, .long (((mAI M2 b4 (x1 : Int32).toNatClampNeg) - 1 : Int32).toInt64)]) (st := []) dX11_always_20 (mlX11_332 rfl) rfl (by first | decide | (simp [Value.category]; done)) (Nat.le_refl _) H (fun r M6 HH hE => ?_)
    obtain ⟨r7, hr, H⟩ := HH hE
    subst hr
    have ho1 := ok_E ho1 hE
    show T _ _ _ _ [.int r7] _ _
    refine xt_if_eq (tgt := 54) dX11_always_23 (by decide) (fun hc => ?_) (fun hc => ?_)
    · have H := H.1 hc
      exact xt_sub [] rfl (VX11_always_54 H)
    · have H := H.2 hc
      refine xt_iload_n (j := 3) dX11_always_26 rfl rfl ?_
      refine xt_i2l dX11_always_27 ?_
      refine xt_lconst (v := 0) dX11_always_28 (by decide) ?_
      refine xt_aload_n (j := 0) dX11_always_29 rfl rfl ?_
      obtain ⟨b8, hb, H⟩ := H
      refine xt_getR dX11_always_30 (flX11_23 rfl) ft_13_8 ho1.1 ho1.2 hb ?_
      refine xt_iload_n (j := 1) dX11_always_33 rfl rfl ?_
      obtain ⟨ho9, H⟩ := H
      obtain ⟨hi, H⟩ := H
      refine xt_iald dX11_always_34 ho9.1 ho9.2 hi ?_
      refine xt_iconst (v := 1) dX11_always_35 (by decide) ?_
      refine xt_isub dX11_always_36 ?_
      refine xt_i2l dX11_always_37 ?_
      refine xt_callS (h2 := h) (as := [.long ((x3 : Int32).toInt64), .long 0, .long (((mAI M6 b8 (x1 : Int32).toNatClampNeg) - 1 : Int32).toInt64)]) (st := []) dX11_always_38 (mlX11_332 rfl) rfl (by first | decide | (simp [Value.category]; done)) (Nat.le_refl _) H (fun r M10 HH hE => ?_)
      obtain ⟨r11, hr, H⟩ := HH hE
      subst hr
      have ho1 := ok_E ho1 hE
      show T _ _ _ _ [.int r11] _ _
      refine xt_if_eq (tgt := 54) dX11_always_41 (by decide) (fun hc => ?_) (fun hc => ?_)
      · have H := H.1 hc
        exact xt_sub [] rfl (VX11_always_54 H)
      · have H := H.2 hc
        refine xt_aload_n (j := 0) dX11_always_44 rfl rfl ?_
        refine xt_iload_n (j := 1) dX11_always_45 rfl rfl ?_
        refine xt_iload_n (j := 2) dX11_always_46 rfl rfl ?_
        refine xt_iload_n (j := 3) dX11_always_47 rfl rfl ?_
        refine xt_callV (h2 := h) (as := [.int x1, .int x2, .int x3]) (st := []) dX11_always_48 (mlX11_872 rfl) rfl ho1.1 ⟨by rw [ho1.2]; rfl, by rw [ho1.2]; decide⟩ (by first | decide | (simp [Value.category]; done)) (Nat.le_refl _) H (fun r M12 HH hE => ?_)
        obtain ⟨r13, hr, H⟩ := HH hE
        subst hr
        have ho1 := ok_E ho1 hE
        show T _ _ _ _ [.int r13] _ _
        refine xt_goto (tgt := 56) dX11_always_51 (by decide) ?_
        exact xt_sub [] rfl (VX11_always_56 H)
theorem KX11_always {h : Nat} {x0 : Nat} {x1 : Int32} {x2 : Int32} {x3 : Int32} {M : Mem} {Q : Option Value → Mem → Prop} (H : DX11_always_0 h x0 x1 x2 x3 M Q) : E (h + 1) mdX11_always [.ref x0, .int x1, .int x2, .int x3] M Q := E.of (by decide) (Nat.le_of_ble_eq_true rfl) (fun _ _ _ => trivial) (VX11_always_0 H)
def DX11_seeks_39 (h : Nat) (x6 : Int32) (M : Mem) (Q : Option Value → Mem → Prop) : Prop :=
  Q (some (.int x6)) M
set_option maxRecDepth 20000 in
set_option maxHeartbeats 2000000 in
theorem VX11_seeks_39 {h : Nat} {x6 : Int32} {M : Mem} {Q : Option Value → Mem → Prop} (H : DX11_seeks_39 h x6 M Q) : T (h + 1) mdX11_seeks 39 [(6, .int x6)] [] M Q := by
  unfold DX11_seeks_39 at H
  refine xt_iload (j := 0) dX11_seeks_39 rfl ?_
  exact xt_ireturn dX11_seeks_41 rfl H
def DX11_seeks_0 (h : Nat) (x0 : Nat) (x1 : Int32) (x2 : Int32) (x3 : Int32) (M : Mem) (Q : Option Value → Mem → Prop) : Prop :=
  ok M x0 13 ∧ E h mdX11_seek [.ref x0, .int x1, .int x2, .int x3] M (fun r M2 => mE M M2 → ∃ r3 : Int32, r = some (.int r3) ∧ (¬ r3 = 1 → DX11_seeks_39 h r3 M2 Q) ∧
  (r3 = 1 → ∀ M4 : Mem, M4 = wI M2 x0 123 (mI M x0 123) →
  ∀ M5 : Mem, M5 = wI M4 x0 124 (mI M x0 124) →
  DX11_seeks_39 h r3 M5 Q))
set_option maxRecDepth 20000 in
set_option maxHeartbeats 2000000 in
theorem VX11_seeks_0 {h : Nat} {x0 : Nat} {x1 : Int32} {x2 : Int32} {x3 : Int32} {M : Mem} {Q : Option Value → Mem → Prop} (H : DX11_seeks_0 h x0 x1 x2 x3 M Q) : T (h + 1) mdX11_seeks 0 [(0, .ref x0), (1, .int x1), (2, .int x2), (3, .int x3)] [] M Q := by
  unfold DX11_seeks_0 at H
  refine xt_aload_n (j := 0) dX11_seeks_0 rfl rfl ?_
  obtain ⟨ho1, H⟩ := H
  refine xt_getI dX11_seeks_1 (flX11_315 rfl) ft_13_123 ho1.1 ho1.2 ?_
  refine xt_istore (lv' := [(4, .int (mI M x0 123)), (0, .ref x0), (1, .int x1), (2, .int x2), (3, .int x3)]) dX11_seeks_4 (by decide) rfl ?_
  refine xt_aload_n (j := 1) dX11_seeks_6 rfl rfl ?_
  refine xt_getI dX11_seeks_7 (flX11_319 rfl) ft_13_124 ho1.1 ho1.2 ?_
  refine xt_istore (lv' := [(5, .int (mI M x0 124)), (4, .int (mI M x0 123)), (0, .ref x0), (1, .int x1), (2, .int x2), (3, .int x3)]) dX11_seeks_10 (by decide) rfl ?_
  refine xt_aload_n (j := 2) dX11_seeks_12 rfl rfl ?_
  refine xt_iload_n (j := 3) dX11_seeks_13 rfl rfl ?_
  refine xt_iload_n (j := 4) dX11_seeks_14 rfl rfl ?_
  refine xt_iload_n (j := 5) dX11_seeks_15 rfl rfl ?_
  refine xt_callV (h2 := h) (as := [.int x1, .int x2, .int x3]) (st := []) dX11_seeks_16 (mlX11_875 rfl) rfl ho1.1 ⟨by rw [ho1.2]; rfl, by rw [ho1.2]; decide⟩ (by first | decide | (simp [Value.category]; done)) (Nat.le_refl _) H (fun r M2 HH hE => ?_)
  obtain ⟨r3, hr, H⟩ := HH hE
  subst hr
  have ho1 := ok_E ho1 hE
  show T _ _ _ _ [.int r3] _ _
  refine xt_istore (lv' := [(6, .int r3), (5, .int (mI M x0 124)), (4, .int (mI M x0 123)), (0, .ref x0), (1, .int x1), (2, .int x2), (3, .int x3)]) dX11_seeks_19 (by decide) rfl ?_
  refine xt_iload (j := 0) dX11_seeks_21 rfl ?_
  refine xt_iconst (v := 1) dX11_seeks_23 (by decide) ?_
  refine xt_icmp_ne (tgt := 39) dX11_seeks_24 (by decide) (fun hc => ?_) (fun hc => ?_)
  · have H := H.1 hc
    exact xt_sub [0] rfl (VX11_seeks_39 H)
  · have H := H.2 hc
    refine xt_aload_n (j := 3) dX11_seeks_27 rfl rfl ?_
    refine xt_iload (j := 2) dX11_seeks_28 rfl ?_
    obtain ⟨M4, eM4⟩ : ∃ z, z = wI M2 x0 123 (mI M x0 123) := ⟨_, rfl⟩
    have H := H _ eM4
    refine xt_putI dX11_seeks_30 (flX11_315 rfl) ty_13_123 rfl ho1.1 ho1.2 ?_
    have ho1 : ok M4 x0 13 := by rw [eM4]; exact ho1
    rw [← eM4]
    refine xt_aload_n (j := 3) dX11_seeks_33 rfl rfl ?_
    refine xt_iload (j := 1) dX11_seeks_34 rfl ?_
    obtain ⟨M5, eM5⟩ : ∃ z, z = wI M4 x0 124 (mI M x0 124) := ⟨_, rfl⟩
    have H := H _ eM5
    refine xt_putI dX11_seeks_36 (flX11_319 rfl) ty_13_124 rfl ho1.1 ho1.2 ?_
    have ho1 : ok M5 x0 13 := by rw [eM5]; exact ho1
    rw [← eM5]
    exact xt_sub [0] rfl (VX11_seeks_39 H)
theorem KX11_seeks {h : Nat} {x0 : Nat} {x1 : Int32} {x2 : Int32} {x3 : Int32} {M : Mem} {Q : Option Value → Mem → Prop} (H : DX11_seeks_0 h x0 x1 x2 x3 M Q) : E (h + 1) mdX11_seeks [.ref x0, .int x1, .int x2, .int x3] M Q := E.of (by decide) (Nat.le_of_ble_eq_true rfl) (fun _ _ _ => trivial) (VX11_seeks_0 H)
def DX11_against_24 (h : Nat) (s0 : Int32) (M : Mem) (Q : Option Value → Mem → Prop) : Prop :=
  Q (some (.int s0)) M
set_option maxRecDepth 20000 in
set_option maxHeartbeats 2000000 in
theorem VX11_against_24 {h : Nat} {s0 : Int32} {M : Mem} {Q : Option Value → Mem → Prop} (H : DX11_against_24 h s0 M Q) : T (h + 1) mdX11_against 24 [] [.int s0] M Q := by
  unfold DX11_against_24 at H
  exact xt_ireturn dX11_against_24 rfl H
def DX11_against_0 (h : Nat) (x0 : Nat) (x1 : Int32) (M : Mem) (Q : Option Value → Mem → Prop) : Prop :=
  (¬ x1 = 0 → (¬ x1 = 1 → DX11_against_24 h (-1) M Q) ∧
  (x1 = 1 → ok M x0 13 ∧ DX11_against_24 h (mI M x0 124) M Q)) ∧
  (x1 = 0 → ok M x0 13 ∧ DX11_against_24 h (mI M x0 123) M Q)
set_option maxRecDepth 20000 in
set_option maxHeartbeats 2000000 in
theorem VX11_against_0 {h : Nat} {x0 : Nat} {x1 : Int32} {M : Mem} {Q : Option Value → Mem → Prop} (H : DX11_against_0 h x0 x1 M Q) : T (h + 1) mdX11_against 0 [(0, .ref x0), (1, .int x1)] [] M Q := by
  unfold DX11_against_0 at H
  refine xt_iload_n (j := 1) dX11_against_0 rfl rfl ?_
  refine xt_if_ne (tgt := 11) dX11_against_1 (by decide) (fun hc => ?_) (fun hc => ?_)
  · have H := H.1 hc
    refine xt_iload_n (j := 1) dX11_against_11 rfl rfl ?_
    refine xt_iconst (v := 1) dX11_against_12 (by decide) ?_
    refine xt_icmp_ne (tgt := 23) dX11_against_13 (by decide) (fun hc => ?_) (fun hc => ?_)
    · have H := H.1 hc
      refine xt_iconst (v := -1) dX11_against_23 (by decide) ?_
      exact xt_sub [] rfl (VX11_against_24 H)
    · have H := H.2 hc
      refine xt_aload_n (j := 0) dX11_against_16 rfl rfl ?_
      obtain ⟨ho1, H⟩ := H
      refine xt_getI dX11_against_17 (flX11_319 rfl) ft_13_124 ho1.1 ho1.2 ?_
      refine xt_goto (tgt := 24) dX11_against_20 (by decide) ?_
      exact xt_sub [] rfl (VX11_against_24 H)
  · have H := H.2 hc
    refine xt_aload_n (j := 0) dX11_against_4 rfl rfl ?_
    obtain ⟨ho2, H⟩ := H
    refine xt_getI dX11_against_5 (flX11_315 rfl) ft_13_123 ho2.1 ho2.2 ?_
    refine xt_goto (tgt := 24) dX11_against_8 (by decide) ?_
    exact xt_sub [] rfl (VX11_against_24 H)
theorem KX11_against {h : Nat} {x0 : Nat} {x1 : Int32} {M : Mem} {Q : Option Value → Mem → Prop} (H : DX11_against_0 h x0 x1 M Q) : E (h + 1) mdX11_against [.ref x0, .int x1] M Q := E.of (by decide) (Nat.le_of_ble_eq_true rfl) (fun _ _ _ => trivial) (VX11_against_0 H)
def DX11_count_36 (h : Nat) (s0 : Int32) (M : Mem) (Q : Option Value → Mem → Prop) : Prop :=
  Q (some (.int s0)) M
set_option maxRecDepth 20000 in
set_option maxHeartbeats 2000000 in
theorem VX11_count_36 {h : Nat} {s0 : Int32} {M : Mem} {Q : Option Value → Mem → Prop} (H : DX11_count_36 h s0 M Q) : T (h + 1) mdX11_count 36 [] [.int s0] M Q := by
  unfold DX11_count_36 at H
  exact xt_ireturn dX11_count_36 rfl H
def DX11_count_0 (h : Nat) (x0 : Nat) (x1 : Int32) (M : Mem) (Q : Option Value → Mem → Prop) : Prop :=
  (¬ x1 = 0 → (¬ x1 = 1 → (¬ x1 = 2 → DX11_count_36 h (-1) M Q) ∧
  (x1 = 2 → ok M x0 13 ∧ DX11_count_36 h (mI M x0 1) M Q)) ∧
  (x1 = 1 → ok M x0 13 ∧ DX11_count_36 h (mI M x0 91) M Q)) ∧
  (x1 = 0 → ok M x0 13 ∧ DX11_count_36 h (mI M x0 18) M Q)
set_option maxRecDepth 20000 in
set_option maxHeartbeats 2000000 in
theorem VX11_count_0 {h : Nat} {x0 : Nat} {x1 : Int32} {M : Mem} {Q : Option Value → Mem → Prop} (H : DX11_count_0 h x0 x1 M Q) : T (h + 1) mdX11_count 0 [(0, .ref x0), (1, .int x1)] [] M Q := by
  unfold DX11_count_0 at H
  refine xt_iload_n (j := 1) dX11_count_0 rfl rfl ?_
  refine xt_if_ne (tgt := 11) dX11_count_1 (by decide) (fun hc => ?_) (fun hc => ?_)
  · have H := H.1 hc
    refine xt_iload_n (j := 1) dX11_count_11 rfl rfl ?_
    refine xt_iconst (v := 1) dX11_count_12 (by decide) ?_
    refine xt_icmp_ne (tgt := 23) dX11_count_13 (by decide) (fun hc => ?_) (fun hc => ?_)
    · have H := H.1 hc
      refine xt_iload_n (j := 1) dX11_count_23 rfl rfl ?_
      refine xt_iconst (v := 2) dX11_count_24 (by decide) ?_
      refine xt_icmp_ne (tgt := 35) dX11_count_25 (by decide) (fun hc => ?_) (fun hc => ?_)
      · have H := H.1 hc
        refine xt_iconst (v := -1) dX11_count_35 (by decide) ?_
        exact xt_sub [] rfl (VX11_count_36 H)
      · have H := H.2 hc
        refine xt_aload_n (j := 0) dX11_count_28 rfl rfl ?_
        obtain ⟨ho1, H⟩ := H
        refine xt_getI dX11_count_29 (flX11_325 rfl) ft_13_1 ho1.1 ho1.2 ?_
        refine xt_goto (tgt := 36) dX11_count_32 (by decide) ?_
        exact xt_sub [] rfl (VX11_count_36 H)
    · have H := H.2 hc
      refine xt_aload_n (j := 0) dX11_count_16 rfl rfl ?_
      obtain ⟨ho2, H⟩ := H
      refine xt_getI dX11_count_17 (flX11_789 rfl) ft_13_91 ho2.1 ho2.2 ?_
      refine xt_goto (tgt := 36) dX11_count_20 (by decide) ?_
      exact xt_sub [] rfl (VX11_count_36 H)
  · have H := H.2 hc
    refine xt_aload_n (j := 0) dX11_count_4 rfl rfl ?_
    obtain ⟨ho3, H⟩ := H
    refine xt_getI dX11_count_5 (flX11_709 rfl) ft_13_18 ho3.1 ho3.2 ?_
    refine xt_goto (tgt := 36) dX11_count_8 (by decide) ?_
    exact xt_sub [] rfl (VX11_count_36 H)
theorem KX11_count {h : Nat} {x0 : Nat} {x1 : Int32} {M : Mem} {Q : Option Value → Mem → Prop} (H : DX11_count_0 h x0 x1 M Q) : E (h + 1) mdX11_count [.ref x0, .int x1] M Q := E.of (by decide) (Nat.le_of_ble_eq_true rfl) (fun _ _ _ => trivial) (VX11_count_0 H)
def DX11_clear_0 (h : Nat) (x0 : Nat) (M : Mem) (Q : Option Value → Mem → Prop) : Prop :=
  ok M x0 13 ∧ ∀ M2 : Mem, M2 = wI M x0 18 0 →
  ∀ M3 : Mem, M3 = wI M2 x0 91 0 →
  Q (some (.int (mI M x0 18))) M3
set_option maxRecDepth 20000 in
set_option maxHeartbeats 2000000 in
theorem VX11_clear_0 {h : Nat} {x0 : Nat} {M : Mem} {Q : Option Value → Mem → Prop} (H : DX11_clear_0 h x0 M Q) : T (h + 1) mdX11_clear 0 [(0, .ref x0)] [] M Q := by
  unfold DX11_clear_0 at H
  refine xt_aload_n (j := 0) dX11_clear_0 rfl rfl ?_
  obtain ⟨ho1, H⟩ := H
  refine xt_getI dX11_clear_1 (flX11_709 rfl) ft_13_18 ho1.1 ho1.2 ?_
  refine xt_istore_n (lv' := [(1, .int (mI M x0 18)), (0, .ref x0)]) dX11_clear_4 rfl (by decide) rfl ?_
  refine xt_aload_n (j := 1) dX11_clear_5 rfl rfl ?_
  refine xt_iconst (v := 0) dX11_clear_6 (by decide) ?_
  obtain ⟨M2, eM2⟩ : ∃ z, z = wI M x0 18 0 := ⟨_, rfl⟩
  have H := H _ eM2
  refine xt_putI dX11_clear_7 (flX11_709 rfl) ty_13_18 rfl ho1.1 ho1.2 ?_
  have ho1 : ok M2 x0 13 := by rw [eM2]; exact ho1
  rw [← eM2]
  refine xt_aload_n (j := 1) dX11_clear_10 rfl rfl ?_
  refine xt_iconst (v := 0) dX11_clear_11 (by decide) ?_
  obtain ⟨M3, eM3⟩ : ∃ z, z = wI M2 x0 91 0 := ⟨_, rfl⟩
  have H := H _ eM3
  refine xt_putI dX11_clear_12 (flX11_789 rfl) ty_13_91 rfl ho1.1 ho1.2 ?_
  have ho1 : ok M3 x0 13 := by rw [eM3]; exact ho1
  rw [← eM3]
  refine xt_iload_n (j := 0) dX11_clear_15 rfl rfl ?_
  exact xt_ireturn dX11_clear_16 rfl H
theorem KX11_clear {h : Nat} {x0 : Nat} {M : Mem} {Q : Option Value → Mem → Prop} (H : DX11_clear_0 h x0 M Q) : E (h + 1) mdX11_clear [.ref x0] M Q := E.of (by decide) (Nat.le_of_ble_eq_true rfl) (fun _ _ _ => trivial) (VX11_clear_0 H)
