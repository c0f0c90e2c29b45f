def DX2_workBeat_196 (h : Nat) (x0 : Nat) (s0 : Nat) (s1 : Int32) (M : Mem) (Q : Option Value → Mem → Prop) : Prop :=
  ok M s0 4 ∧ ∀ M2 : Mem, M2 = wI M s0 11 s1 →
  ok M2 x0 4 ∧ ∃ b4 : Nat, mR M2 x0 2 = some b4 ∧ ∃ b5 : Nat, mR M2 x0 3 = some b5 ∧ ∀ M6 : Mem, M6 = wR M2 x0 2 (some b5) →
  ∀ M7 : Mem, M7 = wR M6 x0 3 (some b4) →
  Q none M7
set_option maxRecDepth 20000 in
set_option maxHeartbeats 2000000 in
theorem VX2_workBeat_196 {h : Nat} {x0 : Nat} {s0 : Nat} {s1 : Int32} {M : Mem} {Q : Option Value → Mem → Prop} (H : DX2_workBeat_196 h x0 s0 s1 M Q) : T (h + 1) mdX2_workBeat 196 [(0, .ref x0)] [.int s1, .ref s0] M Q := by
  unfold DX2_workBeat_196 at H
  obtain ⟨ho1, H⟩ := H
  obtain ⟨M2, eM2⟩ : ∃ z, z = wI M s0 11 s1 := ⟨_, rfl⟩
  have H := H _ eM2
  refine xt_putI dX2_workBeat_196 (flX2_28 rfl) ty_4_11 rfl ho1.1 ho1.2 ?_
  rw [← eM2]
  refine xt_aload_n (j := 0) dX2_workBeat_199 rfl rfl ?_
  obtain ⟨ho3, H⟩ := H
  obtain ⟨b4, hb, H⟩ := H
  refine xt_getR dX2_workBeat_200 (flX2_13 rfl) ft_4_2 ho3.1 ho3.2 hb ?_
  refine xt_astore_n (lv' := [(2, .ref b4), (0, .ref x0)]) dX2_workBeat_203 rfl (by decide) rfl ?_
  refine xt_aload_n (j := 1) dX2_workBeat_204 rfl rfl ?_
  refine xt_aload_n (j := 1) dX2_workBeat_205 rfl rfl ?_
  obtain ⟨b5, hb, H⟩ := H
  refine xt_getR dX2_workBeat_206 (flX2_17 rfl) ft_4_3 ho3.1 ho3.2 hb ?_
  obtain ⟨M6, eM6⟩ : ∃ z, z = wR M2 x0 2 (some b5) := ⟨_, rfl⟩
  have H := H _ eM6
  refine xt_putR dX2_workBeat_209 (flX2_13 rfl) ft_4_2 rfl ho3.1 ho3.2 ?_
  have ho3 : ok M6 x0 4 := by rw [eM6]; exact ho3
  rw [← eM6]
  refine xt_aload_n (j := 1) dX2_workBeat_212 rfl rfl ?_
  refine xt_aload_n (j := 0) dX2_workBeat_213 rfl rfl ?_
  obtain ⟨M7, eM7⟩ : ∃ z, z = wR M6 x0 3 (some b4) := ⟨_, rfl⟩
  have H := H _ eM7
  refine xt_putR dX2_workBeat_214 (flX2_17 rfl) ft_4_3 rfl ho3.1 ho3.2 ?_
  have ho3 : ok M7 x0 4 := by rw [eM7]; exact ho3
  rw [← eM7]
  exact xt_return dX2_workBeat_217 rfl H
def DX2_workBeat_108 (h : Nat) (x0 : Nat) (x1 : Nat) (M : Mem) (Q : Option Value → Mem → Prop) : Prop :=
  ok M x0 4 ∧ ((mI M x0 12) = 0 → ok M x1 2 ∧ E h mdX0_shownIn [.ref x1, .int 0] M (fun r M3 => mE M M3 → ∃ r4 : Int32, r = some (.int r4) ∧ ∀ M5 : Mem, M5 = wI M3 x0 10 r4 →
  ∃ b6 : Nat, mR M5 x0 3 = some b6 ∧ ∃ b7 : Nat, mR M5 x0 2 = some b7 ∧ ok M5 b7 21 ∧ vp_in 0 (mL M5 b7) ∧ E h mdX0_setBehind [.ref x1, .int 0, .int (mAI M5 b7 (0 : Int32).toNatClampNeg)] M5 (fun r M9 => mE M5 M9 → ∃ r10 : Int32, r = some (.int r10) ∧ ok M9 b6 21 ∧ vp_in 0 (mL M9 b6) ∧ ∀ M12 : Mem, M12 = wAI M9 b6 (0 : Int32).toNatClampNeg r10 →
  ∃ b13 : Nat, mR M12 x0 3 = some b13 ∧ ok M12 b13 21 ∧ vp_in 1 (mL M12 b13) ∧ ∀ M15 : Mem, M15 = wAI M12 b13 (1 : Int32).toNatClampNeg (mI M12 x0 10) →
  ∃ b16 : Nat, mR M15 x0 3 = some b16 ∧ ok M15 b16 21 ∧ vp_in 2 (mL M15 b16) ∧ vp_in 2 (mL M15 b16) ∧ ∀ M18 : Mem, M18 = wAI M15 b16 (2 : Int32).toNatClampNeg ((mAI M15 b16 (2 : Int32).toNatClampNeg) + 1) →
  ∃ b19 : Nat, mR M18 x0 3 = some b19 ∧ E h mdX0_truth [.ref x1, .int (mI M18 x1 16)] M18 (fun r M20 => mE M18 M20 → ∃ r21 : Int32, r = some (.int r21) ∧ ok M20 b19 21 ∧ vp_in 3 (mL M20 b19) ∧ ∀ M23 : Mem, M23 = wAI M20 b19 (3 : Int32).toNatClampNeg r21 →
  ∃ b24 : Nat, mR M23 x0 3 = some b24 ∧ ok M23 b24 21 ∧ vp_in 3 (mL M23 b24) ∧ ((mAI M23 b24 (3 : Int32).toNatClampNeg) = 0 → DX2_workBeat_196 h x0 x0 0 M23 Q) ∧
  (¬ ((mAI M23 b24 (3 : Int32).toNatClampNeg) = 0) → DX2_workBeat_196 h x0 x0 1 M23 Q))))) ∧
  (¬ ((mI M x0 12) = 0) → ∀ M26 : Mem, M26 = wI M x0 11 2 →
  Q none M26)
set_option maxRecDepth 20000 in
set_option maxHeartbeats 2000000 in
theorem VX2_workBeat_108 {h : Nat} {x0 : Nat} {x1 : Nat} {M : Mem} {Q : Option Value → Mem → Prop} (H : DX2_workBeat_108 h x0 x1 M Q) : T (h + 1) mdX2_workBeat 108 [(0, .ref x0), (1, .ref x1)] [] M Q := by
  unfold DX2_workBeat_108 at H
  refine xt_aload_n (j := 0) dX2_workBeat_108 rfl rfl ?_
  obtain ⟨ho1, H⟩ := H
  refine xt_getI dX2_workBeat_109 (flX2_96 rfl) ft_4_12 ho1.1 ho1.2 ?_
  refine xt_if_eq (tgt := 121) dX2_workBeat_112 (by decide) (fun hc => ?_) (fun hc => ?_)
  · have H := H.1 hc
    refine xt_aload_n (j := 0) dX2_workBeat_121 rfl rfl ?_
    refine xt_aload_n (j := 1) dX2_workBeat_122 rfl rfl ?_
    refine xt_iconst (v := 0) dX2_workBeat_123 (by decide) ?_
    obtain ⟨ho2, H⟩ := H
    refine xt_callV (h2 := h) (as := [.int 0]) (st := [.ref x0]) dX2_workBeat_124 (mlX2_190 rfl) rfl ho2.1 ⟨by rw [ho2.2]; rfl, by rw [ho2.2]; decide⟩ (by first | decide | (simp [Value.category]; done)) (Nat.le_refl _) H (fun r M3 HH hE => ?_)
    obtain ⟨r4, hr, H⟩ := HH hE
    subst hr
    have ho1 := ok_E ho1 hE
    have ho2 := ok_E ho2 hE
    show T _ _ _ _ [.int r4, .ref x0] _ _
    obtain ⟨M5, eM5⟩ : ∃ z, z = wI M3 x0 10 r4 := ⟨_, rfl⟩
    have H := H _ eM5
    refine xt_putI dX2_workBeat_127 (flX2_93 rfl) ty_4_10 rfl ho1.1 ho1.2 ?_
    have ho1 : ok M5 x0 4 := by rw [eM5]; exact ho1
    have ho2 : ok M5 x1 2 := by rw [eM5]; exact ho2
    rw [← eM5]
    refine xt_aload_n (j := 0) dX2_workBeat_130 rfl rfl ?_
    obtain ⟨b6, hb, H⟩ := H
    refine xt_getR dX2_workBeat_131 (flX2_17 rfl) ft_4_3 ho1.1 ho1.2 hb ?_
    refine xt_iconst (v := 0) dX2_workBeat_134 (by decide) ?_
    refine xt_aload_n (j := 1) dX2_workBeat_135 rfl rfl ?_
    refine xt_iconst (v := 0) dX2_workBeat_136 (by decide) ?_
    refine xt_aload_n (j := 0) dX2_workBeat_137 rfl rfl ?_
    obtain ⟨b7, hb, H⟩ := H
    refine xt_getR dX2_workBeat_138 (flX2_13 rfl) ft_4_2 ho1.1 ho1.2 hb ?_
    refine xt_iconst (v := 0) dX2_workBeat_141 (by decide) ?_
    obtain ⟨ho8, H⟩ := H
    obtain ⟨hi, H⟩ := H
    refine xt_iald dX2_workBeat_142 ho8.1 ho8.2 hi ?_
    refine xt_callV (h2 := h) (as := [.int 0, .int (mAI M5 b7 (0 : Int32).toNatClampNeg)]) (st := [.int 0, .ref b6]) dX2_workBeat_143 (mlX2_193 rfl) rfl ho2.1 ⟨by rw [ho2.2]; rfl, by rw [ho2.2]; decide⟩ (by first | decide | (simp [Value.category]; done)) (Nat.le_refl _) H (fun r M9 HH hE => ?_)
    obtain ⟨r10, hr, H⟩ := HH hE
    subst hr
    have ho1 := ok_E ho1 hE
    have ho2 := ok_E ho2 hE
    show T _ _ _ _ [.int r10, .int 0, .ref b6] _ _
    obtain ⟨ho11, H⟩ := H
    obtain ⟨hi, H⟩ := H
    obtain ⟨M12, eM12⟩ : ∃ z, z = wAI M9 b6 (0 : Int32).toNatClampNeg r10 := ⟨_, rfl⟩
    have H := H _ eM12
    refine xt_iast dX2_workBeat_146 ho11.1 ho11.2 hi ?_
    have ho1 : ok M12 x0 4 := by rw [eM12]; exact ho1
    have ho2 : ok M12 x1 2 := by rw [eM12]; exact ho2
    rw [← eM12]
    refine xt_aload_n (j := 0) dX2_workBeat_147 rfl rfl ?_
    obtain ⟨b13, hb, H⟩ := H
    refine xt_getR dX2_workBeat_148 (flX2_17 rfl) ft_4_3 ho1.1 ho1.2 hb ?_
    refine xt_iconst (v := 1) dX2_workBeat_151 (by decide) ?_
    refine xt_aload_n (j := 0) dX2_workBeat_152 rfl rfl ?_
    refine xt_getI dX2_workBeat_153 (flX2_93 rfl) ft_4_10 ho1.1 ho1.2 ?_
    obtain ⟨ho14, H⟩ := H
    obtain ⟨hi, H⟩ := H
    obtain ⟨M15, eM15⟩ : ∃ z, z = wAI M12 b13 (1 : Int32).toNatClampNeg (mI M12 x0 10) := ⟨_, rfl⟩
    have H := H _ eM15
    refine xt_iast dX2_workBeat_156 ho14.1 ho14.2 hi ?_
    have ho1 : ok M15 x0 4 := by rw [eM15]; exact ho1
    have ho2 : ok M15 x1 2 := by rw [eM15]; exact ho2
    rw [← eM15]
    refine xt_aload_n (j := 0) dX2_workBeat_157 rfl rfl ?_
    obtain ⟨b16, hb, H⟩ := H
    refine xt_getR dX2_workBeat_158 (flX2_17 rfl) ft_4_3 ho1.1 ho1.2 hb ?_
    refine xt_iconst (v := 2) dX2_workBeat_161 (by decide) ?_
    refine xt_dup2 dX2_workBeat_162 rfl rfl ?_
    obtain ⟨ho17, H⟩ := H
    obtain ⟨hi, H⟩ := H
    refine xt_iald dX2_workBeat_163 ho17.1 ho17.2 hi ?_
    refine xt_iconst (v := 1) dX2_workBeat_164 (by decide) ?_
    refine xt_iadd dX2_workBeat_165 ?_
    obtain ⟨hi, H⟩ := H
    obtain ⟨M18, eM18⟩ : ∃ z, z = wAI M15 b16 (2 : Int32).toNatClampNeg ((mAI M15 b16 (2 : Int32).toNatClampNeg) + 1) := ⟨_, rfl⟩
    have H := H _ eM18
    refine xt_iast dX2_workBeat_166 ho17.1 ho17.2 hi ?_
    have ho1 : ok M18 x0 4 := by rw [eM18]; exact ho1
    have ho2 : ok M18 x1 2 := by rw [eM18]; exact ho2
    rw [← eM18]
    refine xt_aload_n (j := 0) dX2_workBeat_167 rfl rfl ?_
    obtain ⟨b19, hb, H⟩ := H
    refine xt_getR dX2_workBeat_168 (flX2_17 rfl) ft_4_3 ho1.1 ho1.2 hb ?_
    refine xt_iconst (v := 3) dX2_workBeat_171 (by decide) ?_
    refine xt_aload_n (j := 1) dX2_workBeat_172 rfl rfl ?_
    refine xt_aload_n (j := 1) dX2_workBeat_173 rfl rfl ?_
    refine xt_getI dX2_workBeat_174 (flX2_197 rfl) ft_2_16 ho2.1 ho2.2 ?_
    refine xt_callV (h2 := h) (as := [.int (mI M18 x1 16)]) (st := [.int 3, .ref b19]) dX2_workBeat_177 (mlX2_157 rfl) rfl ho2.1 ⟨by rw [ho2.2]; rfl, by rw [ho2.2]; decide⟩ (by first | decide | (simp [Value.category]; done)) (Nat.le_refl _) H (fun r M20 HH hE => ?_)
    obtain ⟨r21, hr, H⟩ := HH hE
    subst hr
    have ho1 := ok_E ho1 hE
    have ho2 := ok_E ho2 hE
    show T _ _ _ _ [.int r21, .int 3, .ref b19] _ _
    obtain ⟨ho22, H⟩ := H
    obtain ⟨hi, H⟩ := H
    obtain ⟨M23, eM23⟩ : ∃ z, z = wAI M20 b19 (3 : Int32).toNatClampNeg r21 := ⟨_, rfl⟩
    have H := H _ eM23
    refine xt_iast dX2_workBeat_180 ho22.1 ho22.2 hi ?_
    have ho1 : ok M23 x0 4 := by rw [eM23]; exact ho1
    have ho2 : ok M23 x1 2 := by rw [eM23]; exact ho2
    rw [← eM23]
    refine xt_aload_n (j := 0) dX2_workBeat_181 rfl rfl ?_
    refine xt_aload_n (j := 0) dX2_workBeat_182 rfl rfl ?_
    obtain ⟨b24, hb, H⟩ := H
    refine xt_getR dX2_workBeat_183 (flX2_17 rfl) ft_4_3 ho1.1 ho1.2 hb ?_
    refine xt_iconst (v := 3) dX2_workBeat_186 (by decide) ?_
    obtain ⟨ho25, H⟩ := H
    obtain ⟨hi, H⟩ := H
    refine xt_iald dX2_workBeat_187 ho25.1 ho25.2 hi ?_
    refine xt_if_eq (tgt := 195) dX2_workBeat_188 (by decide) (fun hc => ?_) (fun hc => ?_)
    · have H := H.1 hc
      refine xt_iconst (v := 0) dX2_workBeat_195 (by decide) ?_
      exact xt_sub [0] rfl (VX2_workBeat_196 H)
    · have H := H.2 hc
      refine xt_iconst (v := 1) dX2_workBeat_191 (by decide) ?_
      refine xt_goto (tgt := 196) dX2_workBeat_192 (by decide) ?_
      exact xt_sub [0] rfl (VX2_workBeat_196 H)
  · have H := H.2 hc
    refine xt_aload_n (j := 0) dX2_workBeat_115 rfl rfl ?_
    refine xt_iconst (v := 2) dX2_workBeat_116 (by decide) ?_
    obtain ⟨M26, eM26⟩ : ∃ z, z = wI M x0 11 2 := ⟨_, rfl⟩
    have H := H _ eM26
    refine xt_putI dX2_workBeat_117 (flX2_28 rfl) ty_4_11 rfl ho1.1 ho1.2 ?_
    have ho1 : ok M26 x0 4 := by rw [eM26]; exact ho1
    rw [← eM26]
    exact xt_return dX2_workBeat_120 rfl H
def DX2_workBeat_102 (h : Nat) (x0 : Nat) (x1 : Nat) (x2 : Int32) (M : Mem) (Q : Option Value → Mem → Prop) : Prop :=
  T (h + 1) mdX2_workBeat 26 [(0, .ref x0), (1, .ref x1), (2, .int (x2 + 1))] [] M Q
set_option maxRecDepth 20000 in
set_option maxHeartbeats 2000000 in
theorem VX2_workBeat_102 {h : Nat} {x0 : Nat} {x1 : Nat} {x2 : Int32} {M : Mem} {Q : Option Value → Mem → Prop} (H : DX2_workBeat_102 h x0 x1 x2 M Q) : T (h + 1) mdX2_workBeat 102 [(0, .ref x0), (1, .ref x1), (2, .int x2)] [] M Q := by
  unfold DX2_workBeat_102 at H
  refine xt_iinc (j := 2) (v := x2 + 1) (lv' := [(2, .int (x2 + 1)), (0, .ref x0), (1, .ref x1)]) dX2_workBeat_102 rfl (by rfl) (by decide) rfl ?_
  refine xt_goto (tgt := 26) dX2_workBeat_105 (by decide) ?_
  exact xt_sub (lv' := [(0, .ref x0), (1, .ref x1), (2, .int (x2 + 1))]) [1, 2, 0] rfl H
def DX2_workBeat_99 (h : Nat) (x0 : Nat) (x1 : Nat) (x2 : Int32) (s0 : Nat) (s1 : Int32) (M : Mem) (Q : Option Value → Mem → Prop) : Prop :=
  ok M s0 4 ∧ ∀ M2 : Mem, M2 = wI M s0 13 s1 →
  DX2_workBeat_102 h x0 x1 x2 M2 Q
set_option maxRecDepth 20000 in
set_option maxHeartbeats 2000000 in
theorem VX2_workBeat_99 {h : Nat} {x0 : Nat} {x1 : Nat} {x2 : Int32} {s0 : Nat} {s1 : Int32} {M : Mem} {Q : Option Value → Mem → Prop} (H : DX2_workBeat_99 h x0 x1 x2 s0 s1 M Q) : T (h + 1) mdX2_workBeat 99 [(0, .ref x0), (1, .ref x1), (2, .int x2)] [.int s1, .ref s0] M Q := by
  unfold DX2_workBeat_99 at H
  obtain ⟨ho1, H⟩ := H
  obtain ⟨M2, eM2⟩ : ∃ z, z = wI M s0 13 s1 := ⟨_, rfl⟩
  have H := H _ eM2
  refine xt_putI dX2_workBeat_99 (flX2_32 rfl) ty_4_13 rfl ho1.1 ho1.2 ?_
  rw [← eM2]
  exact xt_sub [0, 1, 2] rfl (VX2_workBeat_102 H)
def DX2_workBeat_26 (h : Nat) (x0 : Nat) (x1 : Nat) (x2 : Int32) (M : Mem) (Q : Option Value → Mem → Prop) : Prop :=
  ok M x0 4 ∧ ∃ b2 : Nat, mR M x0 0 = some b2 ∧ ok M b2 3 ∧ ∃ b4 : Nat, mR M b2 6 = some b4 ∧ ok M b4 1 ∧ E h mdJx4a65c_size_8abf5 [.ref b4] M (fun r M6 => mE M M6 → ∃ r7 : Int32, r = some (.int r7) ∧ (r7 ≤ x2 → DX2_workBeat_108 h x0 x1 M6 Q) ∧
  (¬ (r7 ≤ x2) → (¬ (mI M6 x0 12) = 0 → DX2_workBeat_108 h x0 x1 M6 Q) ∧
  ((mI M6 x0 12) = 0 → ∃ b8 : Nat, mR M6 x0 0 = some b8 ∧ ok M6 b8 3 ∧ ∃ b10 : Nat, mR M6 b8 6 = some b10 ∧ ok M6 b10 1 ∧ E h mdJx4a65c_get_915e3 [.ref b10, .int x2] M6 (fun r M12 => mE M6 M12 → ∃ b13 : Nat, r = some (.ref b13) ∧ ok M12 b13 5 ∧ ((mI M12 b13 3) = 0 → DX2_workBeat_102 h x0 x1 x2 M12 Q) ∧
  (¬ ((mI M12 b13 3) = 0) → ok M12 x1 2 ∧ E h mdX0_isOn [.ref x1, .int (mI M12 b13 9), .int 0] M12 (fun r M16 => mE M12 M16 → ∃ r17 : Int32, r = some (.int r17) ∧ (r17 = 0 → DX2_workBeat_102 h x0 x1 x2 M16 Q) ∧
  (¬ (r17 = 0) → E h mdX2_workPart [.ref x0, .ref b13] M16 (fun r M18 => mE M16 M18 → r = none ∧ ((mI M18 x0 12) = 0 → DX2_workBeat_99 h x0 x1 x2 x0 (-1) M18 Q) ∧
  (¬ ((mI M18 x0 12) = 0) → DX2_workBeat_99 h x0 x1 x2 x0 x2 M18 Q)))))))))
set_option maxRecDepth 20000 in
set_option maxHeartbeats 2000000 in
theorem VX2_workBeat_26 {h : Nat} {x0 : Nat} {x1 : Nat} {x2 : Int32} {M : Mem} {Q : Option Value → Mem → Prop} (H : DX2_workBeat_26 h x0 x1 x2 M Q) : T (h + 1) mdX2_workBeat 26 [(0, .ref x0), (1, .ref x1), (2, .int x2)] [] M Q := by
  unfold DX2_workBeat_26 at H
  refine xt_iload_n (j := 2) dX2_workBeat_26 rfl rfl ?_
  refine xt_aload_n (j := 0) dX2_workBeat_27 rfl rfl ?_
  obtain ⟨ho1, H⟩ := H
  obtain ⟨b2, hb, H⟩ := H
  refine xt_getR dX2_workBeat_28 (flX2_35 rfl) ft_4_0 ho1.1 ho1.2 hb ?_
  obtain ⟨ho3, H⟩ := H
  obtain ⟨b4, hb, H⟩ := H
  refine xt_getR dX2_workBeat_31 (flX2_42 rfl) ft_3_6 ho3.1 ho3.2 hb ?_
  obtain ⟨ho5, H⟩ := H
  refine xt_callV (h2 := h) (as := []) (st := [.int x2]) dX2_workBeat_34 (mlX2_46 rfl) rfl ho5.1 ⟨by rw [ho5.2]; rfl, by rw [ho5.2]; decide⟩ (by first | decide | (simp [Value.category]; done)) (Nat.le_refl _) H (fun r M6 HH hE => ?_)
  obtain ⟨r7, hr, H⟩ := HH hE
  subst hr
  have ho1 := ok_E ho1 hE
  show T _ _ _ _ [.int r7, .int x2] _ _
  refine xt_icmp_ge (tgt := 108) dX2_workBeat_37 (by decide) (fun hc => ?_) (fun hc => ?_)
  · have H := H.1 hc
    exact xt_sub [0, 1] rfl (VX2_workBeat_108 H)
  · have H := H.2 hc
    refine xt_aload_n (j := 0) dX2_workBeat_40 rfl rfl ?_
    refine xt_getI dX2_workBeat_41 (flX2_96 rfl) ft_4_12 ho1.1 ho1.2 ?_
    refine xt_if_ne (tgt := 108) dX2_workBeat_44 (by decide) (fun hc => ?_) (fun hc => ?_)
    · have H := H.1 hc
      exact xt_sub [0, 1] rfl (VX2_workBeat_108 H)
    · have H := H.2 hc
      refine xt_aload_n (j := 0) dX2_workBeat_47 rfl rfl ?_
      obtain ⟨b8, hb, H⟩ := H
      refine xt_getR dX2_workBeat_48 (flX2_35 rfl) ft_4_0 ho1.1 ho1.2 hb ?_
      obtain ⟨ho9, H⟩ := H
      obtain ⟨b10, hb, H⟩ := H
      refine xt_getR dX2_workBeat_51 (flX2_42 rfl) ft_3_6 ho9.1 ho9.2 hb ?_
      refine xt_iload_n (j := 2) dX2_workBeat_54 rfl rfl ?_
      obtain ⟨ho11, H⟩ := H
      refine xt_callV (h2 := h) (as := [.int x2]) (st := []) dX2_workBeat_55 (mlX2_109 rfl) rfl ho11.1 ⟨by rw [ho11.2]; rfl, by rw [ho11.2]; decide⟩ (by first | decide | (simp [Value.category]; done)) (Nat.le_refl _) H (fun r M12 HH hE => ?_)
      obtain ⟨b13, hr, H⟩ := HH hE
      subst hr
      have ho1 := ok_E ho1 hE
      show T _ _ _ _ [.ref b13] _ _
      obtain ⟨ho14, H⟩ := H
      refine xt_cast dX2_workBeat_58 (ccX2_113 rfl) ho14.1 ho14.2 ?_
      refine xt_astore_n (lv' := [(3, .ref b13), (0, .ref x0), (1, .ref x1), (2, .int x2)]) dX2_workBeat_61 rfl (by decide) rfl ?_
      refine xt_aload_n (j := 0) dX2_workBeat_62 rfl rfl ?_
      refine xt_getI dX2_workBeat_63 (flX2_115 rfl) ft_5_3 ho14.1 ho14.2 ?_
      refine xt_if_eq (tgt := 102) dX2_workBeat_66 (by decide) (fun hc => ?_) (fun hc => ?_)
      · have H := H.1 hc
        exact xt_sub [1, 2, 3] rfl (VX2_workBeat_102 H)
      · have H := H.2 hc
        refine xt_aload_n (j := 2) dX2_workBeat_69 rfl rfl ?_
        refine xt_aload_n (j := 0) dX2_workBeat_70 rfl rfl ?_
        refine xt_getI dX2_workBeat_71 (flX2_154 rfl) ft_5_9 ho14.1 ho14.2 ?_
        refine xt_iconst (v := 0) dX2_workBeat_74 (by decide) ?_
        obtain ⟨ho15, H⟩ := H
        refine xt_callV (h2 := h) (as := [.int (mI M12 b13 9), .int 0]) (st := []) dX2_workBeat_75 (mlX2_182 rfl) rfl ho15.1 ⟨by rw [ho15.2]; rfl, by rw [ho15.2]; decide⟩ (by first | decide | (simp [Value.category]; done)) (Nat.le_refl _) H (fun r M16 HH hE => ?_)
        obtain ⟨r17, hr, H⟩ := HH hE
        subst hr
        have ho1 := ok_E ho1 hE
        have ho14 := ok_E ho14 hE
        have ho15 := ok_E ho15 hE
        show T _ _ _ _ [.int r17] _ _
        refine xt_if_eq (tgt := 102) dX2_workBeat_78 (by decide) (fun hc => ?_) (fun hc => ?_)
        · have H := H.1 hc
          exact xt_sub [1, 2, 3] rfl (VX2_workBeat_102 H)
        · have H := H.2 hc
          refine xt_aload_n (j := 1) dX2_workBeat_81 rfl rfl ?_
          refine xt_aload_n (j := 0) dX2_workBeat_82 rfl rfl ?_
          refine xt_callV (h2 := h) (as := [.ref b13]) (st := []) dX2_workBeat_83 (mlX2_186 rfl) rfl ho1.1 ⟨by rw [ho1.2]; rfl, by rw [ho1.2]; decide⟩ (by first | decide | (simp [Value.category]; done)) (Nat.le_refl _) H (fun r M18 HH hE => ?_)
          obtain ⟨hr, H⟩ := HH hE
          subst hr
          have ho1 := ok_E ho1 hE
          have ho14 := ok_E ho14 hE
          have ho15 := ok_E ho15 hE
          show T _ _ _ _ [] _ _
          refine xt_aload_n (j := 1) dX2_workBeat_86 rfl rfl ?_
          refine xt_aload_n (j := 1) dX2_workBeat_87 rfl rfl ?_
          refine xt_getI dX2_workBeat_88 (flX2_96 rfl) ft_4_12 ho1.1 ho1.2 ?_
          refine xt_if_eq (tgt := 98) dX2_workBeat_91 (by decide) (fun hc => ?_) (fun hc => ?_)
          · have H := H.1 hc
            refine xt_iconst (v := -1) dX2_workBeat_98 (by decide) ?_
            exact xt_sub [1, 2, 3] rfl (VX2_workBeat_99 H)
          · have H := H.2 hc
            refine xt_iload_n (j := 3) dX2_workBeat_94 rfl rfl ?_
            refine xt_goto (tgt := 99) dX2_workBeat_95 (by decide) ?_
            exact xt_sub [1, 2, 3] rfl (VX2_workBeat_99 H)
def DX2_workBeat_0 (h : Nat) (x0 : Nat) (x1 : Nat) (M : Mem) (Q : Option Value → Mem → Prop) : Prop :=
  ok M x0 4 ∧ ∃ b2 : Nat, mR M x0 2 = some b2 ∧ ∃ b3 : Nat, mR M x0 3 = some b3 ∧ ok M b2 21 ∧ ok M b3 21 ∧ (¬ (0 : Int32) < 0 ∧ ¬ (0 : Int32) < 0 ∧ ¬ (26 : Int32) < 0 ∧ (0 : Int32).toNatClampNeg + (26 : Int32).toNatClampNeg ≤ mL M b2 ∧ (0 : Int32).toNatClampNeg + (26 : Int32).toNatClampNeg ≤ mL M b3) ∧ ∀ M6 : Mem, M6 = wCp M b2 b3 (0 : Int32).toNatClampNeg (0 : Int32).toNatClampNeg (26 : Int32).toNatClampNeg →
  E h mdX2_takeGivenNumbers [.ref x0] M6 (fun r M7 => mE M6 M7 → r = none ∧ ∀ M8 : Mem, M8 = wI M7 x0 9 0 →
  T (h + 1) mdX2_workBeat 26 [(0, .ref x0), (1, .ref x1), (2, .int 0)] [] M8 Q)
set_option maxRecDepth 20000 in
set_option maxHeartbeats 2000000 in
theorem VX2_workBeat_0 {h : Nat} {x0 : Nat} {x1 : Nat} {M : Mem} {Q : Option Value → Mem → Prop} (H : DX2_workBeat_0 h x0 x1 M Q) : T (h + 1) mdX2_workBeat 0 [(0, .ref x0), (1, .ref x1)] [] M Q := by
  unfold DX2_workBeat_0 at H
  refine xt_aload_n (j := 0) dX2_workBeat_0 rfl rfl ?_
  obtain ⟨ho1, H⟩ := H
  obtain ⟨b2, hb, H⟩ := H
  refine xt_getR dX2_workBeat_1 (flX2_13 rfl) ft_4_2 ho1.1 ho1.2 hb ?_
  refine xt_iconst (v := 0) dX2_workBeat_4 (by decide) ?_
  refine xt_aload_n (j := 0) dX2_workBeat_5 rfl rfl ?_
  obtain ⟨b3, hb, H⟩ := H
  refine xt_getR dX2_workBeat_6 (flX2_17 rfl) ft_4_3 ho1.1 ho1.2 hb ?_
  refine xt_iconst (v := 0) dX2_workBeat_9 (by decide) ?_
  refine xt_bipush (v := 26) dX2_workBeat_10 (by decide) ?_
  obtain ⟨ho4, H⟩ := H
  obtain ⟨ho5, H⟩ := H
  obtain ⟨⟨hq1, hq2, hq3, hq4, hq5⟩, H⟩ := H
  obtain ⟨M6, eM6⟩ : ∃ z, z = wCp M b2 b3 (0 : Int32).toNatClampNeg (0 : Int32).toNatClampNeg (26 : Int32).toNatClampNeg := ⟨_, rfl⟩
  have H := H _ eM6
  refine xt_cpyI dX2_workBeat_12 (cpX2_170 rfl) ho4 ho5 hq1 hq2 hq3 hq4 hq5 (Nat.succ_le_succ (Nat.zero_le _)) (by first | decide | (simp [Value.category]; done)) ?_
  have ho1 : ok M6 x0 4 := by rw [eM6]; exact ho1
  rw [← eM6]
  refine xt_aload_n (j := 0) dX2_workBeat_15 rfl rfl ?_
  refine xt_callV (h2 := h) (as := []) (st := []) dX2_workBeat_16 (mlX2_176 rfl) rfl ho1.1 ⟨by rw [ho1.2]; rfl, by rw [ho1.2]; decide⟩ (by first | decide | (simp [Value.category]; done)) (Nat.le_refl _) H (fun r M7 HH hE => ?_)
  obtain ⟨hr, H⟩ := HH hE
  subst hr
  have ho1 := ok_E ho1 hE
  show T _ _ _ _ [] _ _
  refine xt_aload_n (j := 0) dX2_workBeat_19 rfl rfl ?_
  refine xt_iconst (v := 0) dX2_workBeat_20 (by decide) ?_
  obtain ⟨M8, eM8⟩ : ∃ z, z = wI M7 x0 9 0 := ⟨_, rfl⟩
  have H := H _ eM8
  refine xt_putI dX2_workBeat_21 (flX2_179 rfl) ty_4_9 rfl ho1.1 ho1.2 ?_
  have ho1 : ok M8 x0 4 := by rw [eM8]; exact ho1
  rw [← eM8]
  refine xt_iconst (v := 0) dX2_workBeat_24 (by decide) ?_
  refine xt_istore_n (lv' := [(2, .int 0), (0, .ref x0), (1, .ref x1)]) dX2_workBeat_25 rfl (by decide) rfl ?_
  exact xt_sub (lv' := [(0, .ref x0), (1, .ref x1), (2, .int 0)]) [1, 2, 0] rfl H
theorem KX2_workBeat {h : Nat} {x0 : Nat} {x1 : Nat} {M : Mem} {Q : Option Value → Mem → Prop} (H : DX2_workBeat_0 h x0 x1 M Q) : E (h + 1) mdX2_workBeat [.ref x0, .ref x1] M Q := E.of (by decide) (Nat.le_of_ble_eq_true rfl) (fun _ _ _ => trivial) (VX2_workBeat_0 H)
def DX2_store_38 (h : Nat) (M : Mem) (Q : Option Value → Mem → Prop) : Prop :=
  Q none M
set_option maxRecDepth 20000 in
set_option maxHeartbeats 2000000 in
theorem VX2_store_38 {h : Nat} {M : Mem} {Q : Option Value → Mem → Prop} (H : DX2_store_38 h  M Q) : T (h + 1) mdX2_store 38 [] [] M Q := by
  unfold DX2_store_38 at H
  exact xt_return dX2_store_38 rfl H
def DX2_store_0 (h : Nat) (x0 : Nat) (M : Mem) (Q : Option Value → Mem → Prop) : Prop :=
  ok M x0 4 ∧ (3 ≤ (mI M x0 5) → DX2_store_38 h  M Q) ∧
  (¬ (3 ≤ (mI M x0 5)) → ∃ b2 : Nat, mR M x0 2 = some b2 ∧ ∃ b3 : Nat, mR M x0 4 = some b3 ∧ ok M b3 25 ∧ vp_in (mI M x0 5) (mL M b3) ∧ ∃ b5 : Nat, mAR M b3 (mI M x0 5 : Int32).toNatClampNeg = some b5 ∧ ok M b2 21 ∧ ok M b5 21 ∧ (¬ (0 : Int32) < 0 ∧ ¬ (0 : Int32) < 0 ∧ ¬ (26 : Int32) < 0 ∧ (0 : Int32).toNatClampNeg + (26 : Int32).toNatClampNeg ≤ mL M b2 ∧ (0 : Int32).toNatClampNeg + (26 : Int32).toNatClampNeg ≤ mL M b5) ∧ ∀ M8 : Mem, M8 = wCp M b2 b5 (0 : Int32).toNatClampNeg (0 : Int32).toNatClampNeg (26 : Int32).toNatClampNeg →
  ∀ M9 : Mem, M9 = wI M8 x0 5 ((mI M8 x0 5) + 1) →
  DX2_store_38 h  M9 Q)
set_option maxRecDepth 20000 in
set_option maxHeartbeats 2000000 in
theorem VX2_store_0 {h : Nat} {x0 : Nat} {M : Mem} {Q : Option Value → Mem → Prop} (H : DX2_store_0 h x0 M Q) : T (h + 1) mdX2_store 0 [(0, .ref x0)] [] M Q := by
  unfold DX2_store_0 at H
  refine xt_aload_n (j := 0) dX2_store_0 rfl rfl ?_
  obtain ⟨ho1, H⟩ := H
  refine xt_getI dX2_store_1 (flX2_217 rfl) ft_4_5 ho1.1 ho1.2 ?_
  refine xt_iconst (v := 3) dX2_store_4 (by decide) ?_
  refine xt_icmp_ge (tgt := 38) dX2_store_5 (by decide) (fun hc => ?_) (fun hc => ?_)
  · have H := H.1 hc
    exact xt_sub [] rfl (VX2_store_38 H)
  · have H := H.2 hc
    refine xt_aload_n (j := 0) dX2_store_8 rfl rfl ?_
    obtain ⟨b2, hb, H⟩ := H
    refine xt_getR dX2_store_9 (flX2_13 rfl) ft_4_2 ho1.1 ho1.2 hb ?_
    refine xt_iconst (v := 0) dX2_store_12 (by decide) ?_
    refine xt_aload_n (j := 0) dX2_store_13 rfl rfl ?_
    obtain ⟨b3, hb, H⟩ := H
    refine xt_getR dX2_store_14 (flX2_22 rfl) ft_4_4 ho1.1 ho1.2 hb ?_
    refine xt_aload_n (j := 0) dX2_store_17 rfl rfl ?_
    refine xt_getI dX2_store_18 (flX2_217 rfl) ft_4_5 ho1.1 ho1.2 ?_
    obtain ⟨ho4, H⟩ := H
    obtain ⟨hi, b5, hb, H⟩ := H
    refine xt_aaldI dX2_store_21 ho4.1 ho4.2 hi hb ?_
    refine xt_iconst (v := 0) dX2_store_22 (by decide) ?_
    refine xt_bipush (v := 26) dX2_store_23 (by decide) ?_
    obtain ⟨ho6, H⟩ := H
    obtain ⟨ho7, H⟩ := H
    obtain ⟨⟨hq1, hq2, hq3, hq4, hq5⟩, H⟩ := H
    obtain ⟨M8, eM8⟩ : ∃ z, z = wCp M b2 b5 (0 : Int32).toNatClampNeg (0 : Int32).toNatClampNeg (26 : Int32).toNatClampNeg := ⟨_, rfl⟩
    have H := H _ eM8
    refine xt_cpyI dX2_store_25 (cpX2_170 rfl) ho6 ho7 hq1 hq2 hq3 hq4 hq5 (Nat.succ_le_succ (Nat.zero_le _)) (by first | decide | (simp [Value.category]; done)) ?_
    have ho1 : ok M8 x0 4 := by rw [eM8]; exact ho1
    rw [← eM8]
    refine xt_aload_n (j := 0) dX2_store_28 rfl rfl ?_
    refine xt_dup dX2_store_29 rfl ?_
    refine xt_getI dX2_store_30 (flX2_217 rfl) ft_4_5 ho1.1 ho1.2 ?_
    refine xt_iconst (v := 1) dX2_store_33 (by decide) ?_
    refine xt_iadd dX2_store_34 ?_
    obtain ⟨M9, eM9⟩ : ∃ z, z = wI M8 x0 5 ((mI M8 x0 5) + 1) := ⟨_, rfl⟩
    have H := H _ eM9
    refine xt_putI dX2_store_35 (flX2_217 rfl) ty_4_5 rfl ho1.1 ho1.2 ?_
    have ho1 : ok M9 x0 4 := by rw [eM9]; exact ho1
    rw [← eM9]
    exact xt_sub [] rfl (VX2_store_38 H)
theorem KX2_store {h : Nat} {x0 : Nat} {M : Mem} {Q : Option Value → Mem → Prop} (H : DX2_store_0 h x0 M Q) : E (h + 1) mdX2_store [.ref x0] M Q := E.of (by decide) (Nat.le_of_ble_eq_true rfl) (fun _ _ _ => trivial) (VX2_store_0 H)
def DX2_restore_37 (h : Nat) (x0 : Nat) (M : Mem) (Q : Option Value → Mem → Prop) : Prop :=
  ok M x0 4 ∧ E h mdX2_forgetBeat [.ref x0] M (fun r M2 => mE M M2 → r = none ∧ ∀ M3 : Mem, M3 = wI M2 x0 11 (-1) →
  ∀ M4 : Mem, M4 = wI M3 x0 6 0 →
  ∃ b5 : Nat, mR M4 x0 8 = some b5 ∧ E h mdJ7_fill_53178 [.ref b5, .int 0] M4 (fun r M6 => mE M4 M6 → r = none ∧ Q none M6))
set_option maxRecDepth 20000 in
set_option maxHeartbeats 2000000 in
theorem VX2_restore_37 {h : Nat} {x0 : Nat} {M : Mem} {Q : Option Value → Mem → Prop} (H : DX2_restore_37 h x0 M Q) : T (h + 1) mdX2_restore 37 [(0, .ref x0)] [] M Q := by
  unfold DX2_restore_37 at H
  refine xt_aload_n (j := 0) dX2_restore_37 rfl rfl ?_
  obtain ⟨ho1, H⟩ := H
  refine xt_callV (h2 := h) (as := []) (st := []) dX2_restore_38 (mlX2_68 rfl) rfl ho1.1 ⟨by rw [ho1.2]; rfl, by rw [ho1.2]; decide⟩ (by first | decide | (simp [Value.category]; done)) (Nat.le_refl _) H (fun r M2 HH hE => ?_)
  obtain ⟨hr, H⟩ := HH hE
  subst hr
  have ho1 := ok_E ho1 hE
  show T _ _ _ _ [] _ _
  refine xt_aload_n (j := 0) dX2_restore_41 rfl rfl ?_
  refine xt_iconst (v := -1) dX2_restore_42 (by decide) ?_
  obtain ⟨M3, eM3⟩ : ∃ z, z = wI M2 x0 11 (-1) := ⟨_, rfl⟩
  have H := H _ eM3
  refine xt_putI dX2_restore_43 (flX2_28 rfl) ty_4_11 rfl ho1.1 ho1.2 ?_
  have ho1 : ok M3 x0 4 := by rw [eM3]; exact ho1
  rw [← eM3]
  refine xt_aload_n (j := 0) dX2_restore_46 rfl rfl ?_
  refine xt_iconst (v := 0) dX2_restore_47 (by decide) ?_
  obtain ⟨M4, eM4⟩ : ∃ z, z = wI M3 x0 6 0 := ⟨_, rfl⟩
  have H := H _ eM4
  refine xt_putI dX2_restore_48 (flX2_61 rfl) ty_4_6 rfl ho1.1 ho1.2 ?_
  have ho1 : ok M4 x0 4 := by rw [eM4]; exact ho1
  rw [← eM4]
  refine xt_aload_n (j := 0) dX2_restore_51 rfl rfl ?_
  obtain ⟨b5, hb, H⟩ := H
  refine xt_getR dX2_restore_52 (flX2_52 rfl) ft_4_8 ho1.1 ho1.2 hb ?_
  refine xt_iconst (v := 0) dX2_restore_55 (by decide) ?_
  refine xt_callS (h2 := h) (as := [.ref b5, .int 0]) (st := []) dX2_restore_56 (mlX2_220 rfl) rfl (by first | decide | (simp [Value.category]; done)) (Nat.le_refl _) H (fun r M6 HH hE => ?_)
  obtain ⟨hr, H⟩ := HH hE
  subst hr
  have ho1 := ok_E ho1 hE
  show T _ _ _ _ [] _ _
  exact xt_return dX2_restore_59 rfl H
def DX2_restore_0 (h : Nat) (x0 : Nat) (M : Mem) (Q : Option Value → Mem → Prop) : Prop :=
  ok M x0 4 ∧ ((mI M x0 5) ≤ 0 → DX2_restore_37 h x0 M Q) ∧
  (¬ ((mI M x0 5) ≤ 0) → ∀ M2 : Mem, M2 = wI M x0 5 ((mI M x0 5) - 1) →
  ∃ b3 : Nat, mR M2 x0 4 = some b3 ∧ ok M2 b3 25 ∧ vp_in (mI M2 x0 5) (mL M2 b3) ∧ ∃ b5 : Nat, mAR M2 b3 (mI M2 x0 5 : Int32).toNatClampNeg = some b5 ∧ ∃ b6 : Nat, mR M2 x0 2 = some b6 ∧ ok M2 b5 21 ∧ ok M2 b6 21 ∧ (¬ (0 : Int32) < 0 ∧ ¬ (0 : Int32) < 0 ∧ ¬ (26 : Int32) < 0 ∧ (0 : Int32).toNatClampNeg + (26 : Int32).toNatClampNeg ≤ mL M2 b5 ∧ (0 : Int32).toNatClampNeg + (26 : Int32).toNatClampNeg ≤ mL M2 b6) ∧ ∀ M9 : Mem, M9 = wCp M2 b5 b6 (0 : Int32).toNatClampNeg (0 : Int32).toNatClampNeg (26 : Int32).toNatClampNeg →
  DX2_restore_37 h x0 M9 Q)
set_option maxRecDepth 20000 in
set_option maxHeartbeats 2000000 in
theorem VX2_restore_0 {h : Nat} {x0 : Nat} {M : Mem} {Q : Option Value → Mem → Prop} (H : DX2_restore_0 h x0 M Q) : T (h + 1) mdX2_restore 0 [(0, .ref x0)] [] M Q := by
  unfold DX2_restore_0 at H
  refine xt_aload_n (j := 0) dX2_restore_0 rfl rfl ?_
  obtain ⟨ho1, H⟩ := H
  refine xt_getI dX2_restore_1 (flX2_217 rfl) ft_4_5 ho1.1 ho1.2 ?_
  refine xt_if_le (tgt := 37) dX2_restore_4 (by decide) (fun hc => ?_) (fun hc => ?_)
  · have H := H.1 hc
    exact xt_sub [0] rfl (VX2_restore_37 H)
  · have H := H.2 hc
    refine xt_aload_n (j := 0) dX2_restore_7 rfl rfl ?_
    refine xt_dup dX2_restore_8 rfl ?_
    refine xt_getI dX2_restore_9 (flX2_217 rfl) ft_4_5 ho1.1 ho1.2 ?_
    refine xt_iconst (v := 1) dX2_restore_12 (by decide) ?_
    refine xt_isub dX2_restore_13 ?_
    obtain ⟨M2, eM2⟩ : ∃ z, z = wI M x0 5 ((mI M x0 5) - 1) := ⟨_, rfl⟩
    have H := H _ eM2
    refine xt_putI dX2_restore_14 (flX2_217 rfl) ty_4_5 rfl ho1.1 ho1.2 ?_
    have ho1 : ok M2 x0 4 := by rw [eM2]; exact ho1
    rw [← eM2]
    refine xt_aload_n (j := 0) dX2_restore_17 rfl rfl ?_
    obtain ⟨b3, hb, H⟩ := H
    refine xt_getR dX2_restore_18 (flX2_22 rfl) ft_4_4 ho1.1 ho1.2 hb ?_
    refine xt_aload_n (j := 0) dX2_restore_21 rfl rfl ?_
    refine xt_getI dX2_restore_22 (flX2_217 rfl) ft_4_5 ho1.1 ho1.2 ?_
    obtain ⟨ho4, H⟩ := H
    obtain ⟨hi, b5, hb, H⟩ := H
    refine xt_aaldI dX2_restore_25 ho4.1 ho4.2 hi hb ?_
    refine xt_iconst (v := 0) dX2_restore_26 (by decide) ?_
    refine xt_aload_n (j := 0) dX2_restore_27 rfl rfl ?_
    obtain ⟨b6, hb, H⟩ := H
    refine xt_getR dX2_restore_28 (flX2_13 rfl) ft_4_2 ho1.1 ho1.2 hb ?_
    refine xt_iconst (v := 0) dX2_restore_31 (by decide) ?_
    refine xt_bipush (v := 26) dX2_restore_32 (by decide) ?_
    obtain ⟨ho7, H⟩ := H
    obtain ⟨ho8, H⟩ := H
    obtain ⟨⟨hq1, hq2, hq3, hq4, hq5⟩, H⟩ := H
    obtain ⟨M9, eM9⟩ : ∃ z, z = wCp M2 b5 b6 (0 : Int32).toNatClampNeg (0 : Int32).toNatClampNeg (26 : Int32).toNatClampNeg := ⟨_, rfl⟩
    have H := H _ eM9
    refine xt_cpyI dX2_restore_34 (cpX2_170 rfl) ho7 ho8 hq1 hq2 hq3 hq4 hq5 (Nat.succ_le_succ (Nat.zero_le _)) (by first | decide | (simp [Value.category]; done)) ?_
    have ho1 : ok M9 x0 4 := by rw [eM9]; exact ho1
    rw [← eM9]
    exact xt_sub [0] rfl (VX2_restore_37 H)
theorem KX2_restore {h : Nat} {x0 : Nat} {M : Mem} {Q : Option Value → Mem → Prop} (H : DX2_restore_0 h x0 M Q) : E (h + 1) mdX2_restore [.ref x0] M Q := E.of (by decide) (Nat.le_of_ble_eq_true rfl) (fun _ _ _ => trivial) (VX2_restore_0 H)
def DX5_groupAlike_91 (h : Nat) (M : Mem) (Q : Option Value → Mem → Prop) : Prop :=
  Q none M
set_option maxRecDepth 20000 in
set_option maxHeartbeats 2000000 in
theorem VX5_groupAlike_91 {h : Nat} {M : Mem} {Q : Option Value → Mem → Prop} (H : DX5_groupAlike_91 h  M Q) : T (h + 1) mdX5_groupAlike 91 [] [] M Q := by
  unfold DX5_groupAlike_91 at H
  exact xt_return dX5_groupAlike_91 rfl H
def DX5_groupAlike_61 (h : Nat) (x0 : Nat) (x2 : Int32) (x3 : Int32) (s0 : Int32) (M : Mem) (Q : Option Value → Mem → Prop) : Prop :=
  T (h + 1) mdX5_groupAlike 18 [(0, .ref x0), (1, .int s0), (2, .int x2), (3, .int (x3 + 1))] [] M Q
set_option maxRecDepth 20000 in
set_option maxHeartbeats 2000000 in
theorem VX5_groupAlike_61 {h : Nat} {x0 : Nat} {x2 : Int32} {x3 : Int32} {s0 : Int32} {M : Mem} {Q : Option Value → Mem → Prop} (H : DX5_groupAlike_61 h x0 x2 x3 s0 M Q) : T (h + 1) mdX5_groupAlike 61 [(0, .ref x0), (2, .int x2), (3, .int x3)] [.int s0] M Q := by
  unfold DX5_groupAlike_61 at H
  refine xt_istore_n (lv' := [(1, .int s0), (0, .ref x0), (2, .int x2), (3, .int x3)]) dX5_groupAlike_61 rfl (by decide) rfl ?_
  refine xt_iinc (j := 3) (v := x3 + 1) (lv' := [(3, .int (x3 + 1)), (1, .int s0), (0, .ref x0), (2, .int x2)]) dX5_groupAlike_62 rfl (by rfl) (by decide) rfl ?_
  refine xt_goto (tgt := 18) dX5_groupAlike_65 (by decide) ?_
  exact xt_sub (lv' := [(0, .ref x0), (1, .int s0), (2, .int x2), (3, .int (x3 + 1))]) [2, 1, 3, 0] rfl H
def DX5_groupAlike_56 (h : Nat) (x0 : Nat) (x2 : Int32) (x3 : Int32) (M : Mem) (Q : Option Value → Mem → Prop) : Prop :=
  DX5_groupAlike_61 h x0 x2 x3 1 M Q
set_option maxRecDepth 20000 in
set_option maxHeartbeats 2000000 in
theorem VX5_groupAlike_56 {h : Nat} {x0 : Nat} {x2 : Int32} {x3 : Int32} {M : Mem} {Q : Option Value → Mem → Prop} (H : DX5_groupAlike_56 h x0 x2 x3 M Q) : T (h + 1) mdX5_groupAlike 56 [(0, .ref x0), (2, .int x2), (3, .int x3)] [] M Q := by
  unfold DX5_groupAlike_56 at H
  refine xt_iconst (v := 1) dX5_groupAlike_56 (by decide) ?_
  refine xt_goto (tgt := 61) dX5_groupAlike_57 (by decide) ?_
  exact xt_sub [0, 1, 2] rfl (VX5_groupAlike_61 H)
def DX5_groupAlike_18 (h : Nat) (x0 : Nat) (x1 : Int32) (x2 : Int32) (x3 : Int32) (M : Mem) (Q : Option Value → Mem → Prop) : Prop :=
  ok M x0 7 ∧ ((mI M x0 3) ≤ x3 → ∃ b2 : Nat, mR M x0 12 = some b2 ∧ ∃ b3 : Nat, mR M x0 11 = some b3 ∧ ok M b2 21 ∧ ok M b3 21 ∧ (¬ (0 : Int32) < 0 ∧ ¬ (0 : Int32) < 0 ∧ ¬ (mI M x0 3 : Int32) < 0 ∧ (0 : Int32).toNatClampNeg + (mI M x0 3 : Int32).toNatClampNeg ≤ mL M b2 ∧ (0 : Int32).toNatClampNeg + (mI M x0 3 : Int32).toNatClampNeg ≤ mL M b3) ∧ ∀ M6 : Mem, M6 = wCp M b2 b3 (0 : Int32).toNatClampNeg (0 : Int32).toNatClampNeg (mI M x0 3 : Int32).toNatClampNeg →
  T (h + 1) mdX5_groupAlike 4 [(0, .ref x0), (1, .int x1), (2, .int (x2 + 1))] [] M6 Q) ∧
  (¬ ((mI M x0 3) ≤ x3) → ∃ b7 : Nat, mR M x0 12 = some b7 ∧ E h mdX5_leastAlike [.ref x0, .int x3] M (fun r M8 => mE M M8 → ∃ r9 : Int32, r = some (.int r9) ∧ ok M8 b7 21 ∧ vp_in x3 (mL M8 b7) ∧ ∀ M11 : Mem, M11 = wAI M8 b7 (x3 : Int32).toNatClampNeg r9 →
  (¬ x1 = 0 → DX5_groupAlike_56 h x0 x2 x3 M11 Q) ∧
  (x1 = 0 → ∃ b12 : Nat, mR M11 x0 12 = some b12 ∧ ok M11 b12 21 ∧ vp_in x3 (mL M11 b12) ∧ ∃ b14 : Nat, mR M11 x0 11 = some b14 ∧ ok M11 b14 21 ∧ vp_in x3 (mL M11 b14) ∧ ((mAI M11 b12 (x3 : Int32).toNatClampNeg) = (mAI M11 b14 (x3 : Int32).toNatClampNeg) → DX5_groupAlike_61 h x0 x2 x3 0 M11 Q) ∧
  (¬ ((mAI M11 b12 (x3 : Int32).toNatClampNeg) = (mAI M11 b14 (x3 : Int32).toNatClampNeg)) → DX5_groupAlike_56 h x0 x2 x3 M11 Q))))
set_option maxRecDepth 20000 in
set_option maxHeartbeats 2000000 in
theorem VX5_groupAlike_18 {h : Nat} {x0 : Nat} {x1 : Int32} {x2 : Int32} {x3 : Int32} {M : Mem} {Q : Option Value → Mem → Prop} (H : DX5_groupAlike_18 h x0 x1 x2 x3 M Q) : T (h + 1) mdX5_groupAlike 18 [(0, .ref x0), (1, .int x1), (2, .int x2), (3, .int x3)] [] M Q := by
  unfold DX5_groupAlike_18 at H
  refine xt_iload_n (j := 3) dX5_groupAlike_18 rfl rfl ?_
  refine xt_aload_n (j := 0) dX5_groupAlike_19 rfl rfl ?_
  obtain ⟨ho1, H⟩ := H
  refine xt_getI dX5_groupAlike_20 (flX5_68 rfl) ft_7_3 ho1.1 ho1.2 ?_
  refine xt_icmp_ge (tgt := 68) dX5_groupAlike_23 (by decide) (fun hc => ?_) (fun hc => ?_)
  · have H := H.1 hc
    refine xt_aload_n (j := 0) dX5_groupAlike_68 rfl rfl ?_
    obtain ⟨b2, hb, H⟩ := H
    refine xt_getR dX5_groupAlike_69 (flX5_65 rfl) ft_7_12 ho1.1 ho1.2 hb ?_
    refine xt_iconst (v := 0) dX5_groupAlike_72 (by decide) ?_
    refine xt_aload_n (j := 0) dX5_groupAlike_73 rfl rfl ?_
    obtain ⟨b3, hb, H⟩ := H
    refine xt_getR dX5_groupAlike_74 (flX5_62 rfl) ft_7_11 ho1.1 ho1.2 hb ?_
    refine xt_iconst (v := 0) dX5_groupAlike_77 (by decide) ?_
    refine xt_aload_n (j := 0) dX5_groupAlike_78 rfl rfl ?_
    refine xt_getI dX5_groupAlike_79 (flX5_68 rfl) ft_7_3 ho1.1 ho1.2 ?_
    obtain ⟨ho4, H⟩ := H
    obtain ⟨ho5, H⟩ := H
    obtain ⟨⟨hq1, hq2, hq3, hq4, hq5⟩, H⟩ := H
    obtain ⟨M6, eM6⟩ : ∃ z, z = wCp M b2 b3 (0 : Int32).toNatClampNeg (0 : Int32).toNatClampNeg (mI M x0 3 : Int32).toNatClampNeg := ⟨_, rfl⟩
    have H := H _ eM6
    refine xt_cpyI dX5_groupAlike_82 (cpX5_123 rfl) ho4 ho5 hq1 hq2 hq3 hq4 hq5 (Nat.succ_le_succ (Nat.zero_le _)) (by first | decide | (simp [Value.category]; done)) ?_
    have ho1 : ok M6 x0 7 := by rw [eM6]; exact ho1
    rw [← eM6]
    refine xt_iinc (j := 2) (v := x2 + 1) (lv' := [(2, .int (x2 + 1)), (0, .ref x0), (1, .int x1), (3, .int x3)]) dX5_groupAlike_85 rfl (by rfl) (by decide) rfl ?_
    refine xt_goto (tgt := 4) dX5_groupAlike_88 (by decide) ?_
    exact xt_sub (lv' := [(0, .ref x0), (1, .int x1), (2, .int (x2 + 1))]) [1, 2, 0] rfl H
  · have H := H.2 hc
    refine xt_aload_n (j := 0) dX5_groupAlike_26 rfl rfl ?_
    obtain ⟨b7, hb, H⟩ := H
    refine xt_getR dX5_groupAlike_27 (flX5_65 rfl) ft_7_12 ho1.1 ho1.2 hb ?_
    refine xt_iload_n (j := 3) dX5_groupAlike_30 rfl rfl ?_
    refine xt_aload_n (j := 0) dX5_groupAlike_31 rfl rfl ?_
    refine xt_iload_n (j := 3) dX5_groupAlike_32 rfl rfl ?_
    refine xt_callV (h2 := h) (as := [.int x3]) (st := [.int x3, .ref b7]) dX5_groupAlike_33 (mlX5_120 rfl) rfl ho1.1 ⟨by rw [ho1.2]; rfl, by rw [ho1.2]; decide⟩ (by first | decide | (simp [Value.category]; done)) (Nat.le_refl _) H (fun r M8 HH hE => ?_)
    obtain ⟨r9, hr, H⟩ := HH hE
    subst hr
    have ho1 := ok_E ho1 hE
    show T _ _ _ _ [.int r9, .int x3, .ref b7] _ _
    obtain ⟨ho10, H⟩ := H
    obtain ⟨hi, H⟩ := H
    obtain ⟨M11, eM11⟩ : ∃ z, z = wAI M8 b7 (x3 : Int32).toNatClampNeg r9 := ⟨_, rfl⟩
    have H := H _ eM11
    refine xt_iast dX5_groupAlike_36 ho10.1 ho10.2 hi ?_
    have ho1 : ok M11 x0 7 := by rw [eM11]; exact ho1
    rw [← eM11]
    refine xt_iload_n (j := 1) dX5_groupAlike_37 rfl rfl ?_
    refine xt_if_ne (tgt := 56) dX5_groupAlike_38 (by decide) (fun hc => ?_) (fun hc => ?_)
    · have H := H.1 hc
      exact xt_sub [0, 2, 3] rfl (VX5_groupAlike_56 H)
    · have H := H.2 hc
      refine xt_aload_n (j := 0) dX5_groupAlike_41 rfl rfl ?_
      obtain ⟨b12, hb, H⟩ := H
      refine xt_getR dX5_groupAlike_42 (flX5_65 rfl) ft_7_12 ho1.1 ho1.2 hb ?_
      refine xt_iload_n (j := 3) dX5_groupAlike_45 rfl rfl ?_
      obtain ⟨ho13, H⟩ := H
      obtain ⟨hi, H⟩ := H
      refine xt_iald dX5_groupAlike_46 ho13.1 ho13.2 hi ?_
      refine xt_aload_n (j := 0) dX5_groupAlike_47 rfl rfl ?_
      obtain ⟨b14, hb, H⟩ := H
      refine xt_getR dX5_groupAlike_48 (flX5_62 rfl) ft_7_11 ho1.1 ho1.2 hb ?_
      refine xt_iload_n (j := 3) dX5_groupAlike_51 rfl rfl ?_
      obtain ⟨ho15, H⟩ := H
      obtain ⟨hi, H⟩ := H
      refine xt_iald dX5_groupAlike_52 ho15.1 ho15.2 hi ?_
      refine xt_icmp_eq (tgt := 60) dX5_groupAlike_53 (by decide) (fun hc => ?_) (fun hc => ?_)
      · have H := H.1 hc
        refine xt_iconst (v := 0) dX5_groupAlike_60 (by decide) ?_
        exact xt_sub [0, 2, 3] rfl (VX5_groupAlike_61 H)
      · have H := H.2 hc
        exact xt_sub [0, 2, 3] rfl (VX5_groupAlike_56 H)
def DX5_groupAlike_4 (h : Nat) (x0 : Nat) (x1 : Int32) (x2 : Int32) (M : Mem) (Q : Option Value → Mem → Prop) : Prop :=
  (48 < x2 → DX5_groupAlike_91 h  M Q) ∧
  (¬ (48 < x2) → (x1 = 0 → DX5_groupAlike_91 h  M Q) ∧
  (¬ (x1 = 0) → T (h + 1) mdX5_groupAlike 18 [(0, .ref x0), (1, .int 0), (2, .int x2), (3, .int 0)] [] M Q))
set_option maxRecDepth 20000 in
set_option maxHeartbeats 2000000 in
theorem VX5_groupAlike_4 {h : Nat} {x0 : Nat} {x1 : Int32} {x2 : Int32} {M : Mem} {Q : Option Value → Mem → Prop} (H : DX5_groupAlike_4 h x0 x1 x2 M Q) : T (h + 1) mdX5_groupAlike 4 [(0, .ref x0), (1, .int x1), (2, .int x2)] [] M Q := by
  unfold DX5_groupAlike_4 at H
  refine xt_iload_n (j := 2) dX5_groupAlike_4 rfl rfl ?_
  refine xt_bipush (v := 48) dX5_groupAlike_5 (by decide) ?_
  refine xt_icmp_gt (tgt := 91) dX5_groupAlike_7 (by decide) (fun hc => ?_) (fun hc => ?_)
  · have H := H.1 hc
    exact xt_sub [] rfl (VX5_groupAlike_91 H)
  · have H := H.2 hc
    refine xt_iload_n (j := 1) dX5_groupAlike_10 rfl rfl ?_
    refine xt_if_eq (tgt := 91) dX5_groupAlike_11 (by decide) (fun hc => ?_) (fun hc => ?_)
    · have H := H.1 hc
      exact xt_sub [] rfl (VX5_groupAlike_91 H)
    · have H := H.2 hc
      refine xt_iconst (v := 0) dX5_groupAlike_14 (by decide) ?_
      refine xt_istore_n (lv' := [(1, .int 0), (0, .ref x0), (2, .int x2)]) dX5_groupAlike_15 rfl (by decide) rfl ?_
      refine xt_iconst (v := 0) dX5_groupAlike_16 (by decide) ?_
      refine xt_istore_n (lv' := [(3, .int 0), (1, .int 0), (0, .ref x0), (2, .int x2)]) dX5_groupAlike_17 rfl (by decide) rfl ?_
      exact xt_sub (lv' := [(0, .ref x0), (1, .int 0), (2, .int x2), (3, .int 0)]) [2, 1, 3, 0] rfl H
def DX5_groupAlike_0 (h : Nat) (x0 : Nat) (M : Mem) (Q : Option Value → Mem → Prop) : Prop :=
  T (h + 1) mdX5_groupAlike 4 [(0, .ref x0), (1, .int 1), (2, .int 0)] [] M Q
set_option maxRecDepth 20000 in
set_option maxHeartbeats 2000000 in
theorem VX5_groupAlike_0 {h : Nat} {x0 : Nat} {M : Mem} {Q : Option Value → Mem → Prop} (H : DX5_groupAlike_0 h x0 M Q) : T (h + 1) mdX5_groupAlike 0 [(0, .ref x0)] [] M Q := by
  unfold DX5_groupAlike_0 at H
  refine xt_iconst (v := 1) dX5_groupAlike_0 (by decide) ?_
  refine xt_istore_n (lv' := [(1, .int 1), (0, .ref x0)]) dX5_groupAlike_1 rfl (by decide) rfl ?_
  refine xt_iconst (v := 0) dX5_groupAlike_2 (by decide) ?_
  refine xt_istore_n (lv' := [(2, .int 0), (1, .int 1), (0, .ref x0)]) dX5_groupAlike_3 rfl (by decide) rfl ?_
  exact xt_sub (lv' := [(0, .ref x0), (1, .int 1), (2, .int 0)]) [2, 1, 0] rfl H
theorem KX5_groupAlike {h : Nat} {x0 : Nat} {M : Mem} {Q : Option Value → Mem → Prop} (H : DX5_groupAlike_0 h x0 M Q) : E (h + 1) mdX5_groupAlike [.ref x0] M Q := E.of (by decide) (Nat.le_of_ble_eq_true rfl) (fun _ _ _ => trivial) (VX5_groupAlike_0 H)
def DX5_workState_264 (h : Nat) (M : Mem) (Q : Option Value → Mem → Prop) : Prop :=
  Q none M
set_option maxRecDepth 20000 in
set_option maxHeartbeats 2000000 in
theorem VX5_workState_264 {h : Nat} {M : Mem} {Q : Option Value → Mem → Prop} (H : DX5_workState_264 h  M Q) : T (h + 1) mdX5_workState 264 [] [] M Q := by
  unfold DX5_workState_264 at H
  exact xt_return dX5_workState_264 rfl H
def DX5_workState_258 (h : Nat) (x0 : Nat) (x1 : Int32) (x2 : Nat) (x3 : Int32) (x4 : Int32) (M : Mem) (Q : Option Value → Mem → Prop) : Prop :=
  T (h + 1) mdX5_workState 143 [(0, .ref x0), (1, .int x1), (2, .ref x2), (3, .int x3), (4, .int (x4 + 1))] [] M Q
set_option maxRecDepth 20000 in
set_option maxHeartbeats 2000000 in
theorem VX5_workState_258 {h : Nat} {x0 : Nat} {x1 : Int32} {x2 : Nat} {x3 : Int32} {x4 : Int32} {M : Mem} {Q : Option Value → Mem → Prop} (H : DX5_workState_258 h x0 x1 x2 x3 x4 M Q) : T (h + 1) mdX5_workState 258 [(0, .ref x0), (1, .int x1), (2, .ref x2), (3, .int x3), (4, .int x4)] [] M Q := by
  unfold DX5_workState_258 at H
  refine xt_iinc (j := 4) (v := x4 + 1) (lv' := [(4, .int (x4 + 1)), (0, .ref x0), (1, .int x1), (2, .ref x2), (3, .int x3)]) dX5_workState_258 rfl (by rfl) (by decide) rfl ?_
  refine xt_goto (tgt := 143) dX5_workState_261 (by decide) ?_
  exact xt_sub (lv' := [(0, .ref x0), (1, .int x1), (2, .ref x2), (3, .int x3), (4, .int (x4 + 1))]) [1, 2, 3, 4, 0] rfl H
def DX5_workState_257 (h : Nat) (x0 : Nat) (x1 : Int32) (x2 : Nat) (x3 : Int32) (x4 : Int32) (s0 : Nat) (s1 : Int32) (s2 : Int32) (M : Mem) (Q : Option Value → Mem → Prop) : Prop :=
  ok M s0 21 ∧ vp_in s1 (mL M s0) ∧ ∀ M2 : Mem, M2 = wAI M s0 (s1 : Int32).toNatClampNeg s2 →
  DX5_workState_258 h x0 x1 x2 x3 x4 M2 Q
set_option maxRecDepth 20000 in
set_option maxHeartbeats 2000000 in
theorem VX5_workState_257 {h : Nat} {x0 : Nat} {x1 : Int32} {x2 : Nat} {x3 : Int32} {x4 : Int32} {s0 : Nat} {s1 : Int32} {s2 : Int32} {M : Mem} {Q : Option Value → Mem → Prop} (H : DX5_workState_257 h x0 x1 x2 x3 x4 s0 s1 s2 M Q) : T (h + 1) mdX5_workState 257 [(0, .ref x0), (1, .int x1), (2, .ref x2), (3, .int x3), (4, .int x4)] [.int s2, .int s1, .ref s0] M Q := by
  unfold DX5_workState_257 at H
  obtain ⟨ho1, H⟩ := H
  obtain ⟨hi, H⟩ := H
  obtain ⟨M2, eM2⟩ : ∃ z, z = wAI M s0 (s1 : Int32).toNatClampNeg s2 := ⟨_, rfl⟩
  have H := H _ eM2
  refine xt_iast dX5_workState_257 ho1.1 ho1.2 hi ?_
  rw [← eM2]
  exact xt_sub [0, 1, 2, 3, 4] rfl (VX5_workState_258 H)
def DX5_workState_143 (h : Nat) (x0 : Nat) (x1 : Int32) (x2 : Nat) (x3 : Int32) (x4 : Int32) (M : Mem) (Q : Option Value → Mem → Prop) : Prop :=
  ok M x0 7 ∧ ((mI M x0 1) ≤ x4 → DX5_workState_264 h  M Q) ∧
  (¬ ((mI M x0 1) ≤ x4) → (¬ (mI M x0 2) = 0 → DX5_workState_264 h  M Q) ∧
  ((mI M x0 2) = 0 → (((((x3 : Int32).toUInt32 >>> ((x4 : Int32).toUInt32 &&& Int32.toUInt32 31)).toInt32) &&& 1) = 0 → ∃ b2 : Nat, mR M x0 10 = some b2 ∧ ok M x2 2 ∧ E h mdX0_shownIn [.ref x2, .int x4] M (fun r M4 => mE M M4 → ∃ r5 : Int32, r = some (.int r5) ∧ ok M4 b2 21 ∧ vp_in ((x1 * (mI M x0 1)) + x4) (mL M4 b2) ∧ ∀ M7 : Mem, M7 = wAI M4 b2 ((x1 * (mI M x0 1)) + x4 : Int32).toNatClampNeg r5 →
  E h mdX0_isOn [.ref x2, .int (mI M7 x2 16), .int x4] M7 (fun r M8 => mE M7 M8 → ∃ r9 : Int32, r = some (.int r9) ∧ ∃ b10 : Nat, mR M8 x0 9 = some b10 ∧ (r9 = 0 → ∃ b11 : Nat, mR M8 x0 5 = some b11 ∧ ok M8 b11 21 ∧ vp_in x1 (mL M8 b11) ∧ E h mdX0_setBehind [.ref x2, .int x4, .int (mAI M8 b11 (x1 : Int32).toNatClampNeg)] M8 (fun r M13 => mE M8 M13 → ∃ r14 : Int32, r = some (.int r14) ∧ ∃ b15 : Nat, mR M13 x0 10 = some b15 ∧ ok M13 b15 21 ∧ vp_in ((x1 * (mI M x0 1)) + x4) (mL M13 b15) ∧ E h mdX5_reach [.ref x0, .int x1, .int x4, .int r14, .int (mAI M13 b15 ((x1 * (mI M x0 1)) + x4 : Int32).toNatClampNeg)] M13 (fun r M17 => mE M13 M17 → ∃ r18 : Int32, r = some (.int r18) ∧ DX5_workState_257 h x0 x1 x2 x3 x4 b10 ((x1 * (mI M x0 1)) + x4) r18 M17 Q))) ∧
  (¬ (r9 = 0) → DX5_workState_257 h x0 x1 x2 x3 x4 b10 ((x1 * (mI M x0 1)) + x4) (-1) M8 Q)))) ∧
  (¬ (((((x3 : Int32).toUInt32 >>> ((x4 : Int32).toUInt32 &&& Int32.toUInt32 31)).toInt32) &&& 1) = 0) → ∃ b19 : Nat, mR M x0 9 = some b19 ∧ ok M b19 21 ∧ vp_in ((x1 * (mI M x0 1)) + x4) (mL M b19) ∧ ∀ M21 : Mem, M21 = wAI M b19 ((x1 * (mI M x0 1)) + x4 : Int32).toNatClampNeg (-2) →
  DX5_workState_258 h x0 x1 x2 x3 x4 M21 Q)))
set_option maxRecDepth 20000 in
set_option maxHeartbeats 2000000 in
theorem VX5_workState_143 {h : Nat} {x0 : Nat} {x1 : Int32} {x2 : Nat} {x3 : Int32} {x4 : Int32} {M : Mem} {Q : Option Value → Mem → Prop} (H : DX5_workState_143 h x0 x1 x2 x3 x4 M Q) : T (h + 1) mdX5_workState 143 [(0, .ref x0), (1, .int x1), (2, .ref x2), (3, .int x3), (4, .int x4)] [] M Q := by
  unfold DX5_workState_143 at H
  refine xt_iload (j := 4) dX5_workState_143 rfl ?_
  refine xt_aload_n (j := 0) dX5_workState_145 rfl rfl ?_
  obtain ⟨ho1, H⟩ := H
  refine xt_getI dX5_workState_146 (flX5_28 rfl) ft_7_1 ho1.1 ho1.2 ?_
  refine xt_icmp_ge (tgt := 264) dX5_workState_149 (by decide) (fun hc => ?_) (fun hc => ?_)
  · have H := H.1 hc
    exact xt_sub [] rfl (VX5_workState_264 H)
  · have H := H.2 hc
    refine xt_aload_n (j := 0) dX5_workState_152 rfl rfl ?_
    refine xt_getI dX5_workState_153 (flX5_24 rfl) ft_7_2 ho1.1 ho1.2 ?_
    refine xt_if_ne (tgt := 264) dX5_workState_156 (by decide) (fun hc => ?_) (fun hc => ?_)
    · have H := H.1 hc
      exact xt_sub [] rfl (VX5_workState_264 H)
    · have H := H.2 hc
      refine xt_iload_n (j := 1) dX5_workState_159 rfl rfl ?_
      refine xt_aload_n (j := 0) dX5_workState_160 rfl rfl ?_
      refine xt_getI dX5_workState_161 (flX5_28 rfl) ft_7_1 ho1.1 ho1.2 ?_
      refine xt_imul dX5_workState_164 ?_
      refine xt_iload (j := 4) dX5_workState_165 rfl ?_
      refine xt_iadd dX5_workState_167 ?_
      refine xt_istore (lv' := [(5, .int ((x1 * (mI M x0 1)) + x4)), (0, .ref x0), (1, .int x1), (2, .ref x2), (3, .int x3), (4, .int x4)]) dX5_workState_168 (by decide) rfl ?_
      refine xt_iload_n (j := 4) dX5_workState_170 rfl rfl ?_
      refine xt_iload (j := 5) dX5_workState_171 rfl ?_
      refine xt_iushr dX5_workState_173 ?_
      refine xt_iconst (v := 1) dX5_workState_174 (by decide) ?_
      refine xt_iand dX5_workState_175 ?_
      refine xt_if_eq (tgt := 191) dX5_workState_176 (by decide) (fun hc => ?_) (fun hc => ?_)
      · have H := H.1 hc
        refine xt_aload_n (j := 1) dX5_workState_191 rfl rfl ?_
        obtain ⟨b2, hb, H⟩ := H
        refine xt_getR dX5_workState_192 (flX5_59 rfl) ft_7_10 ho1.1 ho1.2 hb ?_
        refine xt_iload (j := 0) dX5_workState_195 rfl ?_
        refine xt_aload_n (j := 3) dX5_workState_197 rfl rfl ?_
        refine xt_iload (j := 5) dX5_workState_198 rfl ?_
        obtain ⟨ho3, H⟩ := H
        refine xt_callV (h2 := h) (as := [.int x4]) (st := [.int ((x1 * (mI M x0 1)) + x4), .ref b2]) dX5_workState_200 (mlX5_101 rfl) rfl ho3.1 ⟨by rw [ho3.2]; rfl, by rw [ho3.2]; decide⟩ (by first | decide | (simp [Value.category]; done)) (Nat.le_refl _) H (fun r M4 HH hE => ?_)
        obtain ⟨r5, hr, H⟩ := HH hE
        subst hr
        have ho1 := ok_E ho1 hE
        have ho3 := ok_E ho3 hE
        show T _ _ _ _ [.int r5, .int ((x1 * (mI M x0 1)) + x4), .ref b2] _ _
        obtain ⟨ho6, H⟩ := H
        obtain ⟨hi, H⟩ := H
        obtain ⟨M7, eM7⟩ : ∃ z, z = wAI M4 b2 ((x1 * (mI M x0 1)) + x4 : Int32).toNatClampNeg r5 := ⟨_, rfl⟩
        have H := H _ eM7
        refine xt_iast dX5_workState_203 ho6.1 ho6.2 hi ?_
        have ho1 : ok M7 x0 7 := by rw [eM7]; exact ho1
        have ho3 : ok M7 x2 2 := by rw [eM7]; exact ho3
        rw [← eM7]
        refine xt_aload_n (j := 3) dX5_workState_204 rfl rfl ?_
        refine xt_aload_n (j := 3) dX5_workState_205 rfl rfl ?_
        refine xt_getI dX5_workState_206 (flX5_105 rfl) ft_2_16 ho3.1 ho3.2 ?_
        refine xt_iload (j := 5) dX5_workState_209 rfl ?_
        refine xt_callV (h2 := h) (as := [.int (mI M7 x2 16), .int x4]) (st := []) dX5_workState_211 (mlX5_108 rfl) rfl ho3.1 ⟨by rw [ho3.2]; rfl, by rw [ho3.2]; decide⟩ (by first | decide | (simp [Value.category]; done)) (Nat.le_refl _) H (fun r M8 HH hE => ?_)
        obtain ⟨r9, hr, H⟩ := HH hE
        subst hr
        have ho1 := ok_E ho1 hE
        have ho3 := ok_E ho3 hE
        show T _ _ _ _ [.int r9] _ _
        refine xt_istore (lv' := [(6, .int r9), (5, .int ((x1 * (mI M x0 1)) + x4)), (0, .ref x0), (1, .int x1), (2, .ref x2), (3, .int x3), (4, .int x4)]) dX5_workState_214 (by decide) rfl ?_
        refine xt_aload_n (j := 2) dX5_workState_216 rfl rfl ?_
        obtain ⟨b10, hb, H⟩ := H
        refine xt_getR dX5_workState_217 (flX5_56 rfl) ft_7_9 ho1.1 ho1.2 hb ?_
        refine xt_iload (j := 1) dX5_workState_220 rfl ?_
        refine xt_iload (j := 0) dX5_workState_222 rfl ?_
        refine xt_if_eq (tgt := 231) dX5_workState_224 (by decide) (fun hc => ?_) (fun hc => ?_)
        · have H := H.1 hc
          refine xt_aload_n (j := 2) dX5_workState_231 rfl rfl ?_
          refine xt_iload_n (j := 3) dX5_workState_232 rfl rfl ?_
          refine xt_iload (j := 6) dX5_workState_233 rfl ?_
          refine xt_aload_n (j := 4) dX5_workState_235 rfl rfl ?_
          refine xt_iload (j := 6) dX5_workState_236 rfl ?_
          refine xt_aload_n (j := 2) dX5_workState_238 rfl rfl ?_
          obtain ⟨b11, hb, H⟩ := H
          refine xt_getR dX5_workState_239 (flX5_43 rfl) ft_7_5 ho1.1 ho1.2 hb ?_
          refine xt_iload_n (j := 3) dX5_workState_242 rfl rfl ?_
          obtain ⟨ho12, H⟩ := H
          obtain ⟨hi, H⟩ := H
          refine xt_iald dX5_workState_243 ho12.1 ho12.2 hi ?_
          refine xt_callV (h2 := h) (as := [.int x4, .int (mAI M8 b11 (x1 : Int32).toNatClampNeg)]) (st := [.int x4, .int x1, .ref x0, .int ((x1 * (mI M x0 1)) + x4), .ref b10]) dX5_workState_244 (mlX5_112 rfl) rfl ho3.1 ⟨by rw [ho3.2]; rfl, by rw [ho3.2]; decide⟩ (by first | decide | (simp [Value.category]; done)) (Nat.le_refl _) H (fun r M13 HH hE => ?_)
          obtain ⟨r14, hr, H⟩ := HH hE
          subst hr
          have ho1 := ok_E ho1 hE
          have ho3 := ok_E ho3 hE
          show T _ _ _ _ [.int r14, .int x4, .int x1, .ref x0, .int ((x1 * (mI M x0 1)) + x4), .ref b10] _ _
          refine xt_aload_n (j := 2) dX5_workState_247 rfl rfl ?_
          obtain ⟨b15, hb, H⟩ := H
          refine xt_getR dX5_workState_248 (flX5_59 rfl) ft_7_10 ho1.1 ho1.2 hb ?_
          refine xt_iload (j := 1) dX5_workState_251 rfl ?_
          obtain ⟨ho16, H⟩ := H
          obtain ⟨hi, H⟩ := H
          refine xt_iald dX5_workState_253 ho16.1 ho16.2 hi ?_
          refine xt_callV (h2 := h) (as := [.int x1, .int x4, .int r14, .int (mAI M13 b15 ((x1 * (mI M x0 1)) + x4 : Int32).toNatClampNeg)]) (st := [.int ((x1 * (mI M x0 1)) + x4), .ref b10]) dX5_workState_254 (mlX5_116 rfl) rfl ho1.1 ⟨by rw [ho1.2]; rfl, by rw [ho1.2]; decide⟩ (by first | decide | (simp [Value.category]; done)) (Nat.le_refl _) H (fun r M17 HH hE => ?_)
          obtain ⟨r18, hr, H⟩ := HH hE
          subst hr
          have ho1 := ok_E ho1 hE
          have ho3 := ok_E ho3 hE
          show T _ _ _ _ [.int r18, .int ((x1 * (mI M x0 1)) + x4), .ref b10] _ _
          exact xt_sub [2, 3, 4, 5, 6] rfl (VX5_workState_257 H)
        · have H := H.2 hc
          refine xt_iconst (v := -1) dX5_workState_227 (by decide) ?_
          refine xt_goto (tgt := 257) dX5_workState_228 (by decide) ?_
          exact xt_sub [2, 3, 4, 5, 6] rfl (VX5_workState_257 H)
      · have H := H.2 hc
        refine xt_aload_n (j := 1) dX5_workState_179 rfl rfl ?_
        obtain ⟨b19, hb, H⟩ := H
        refine xt_getR dX5_workState_180 (flX5_56 rfl) ft_7_9 ho1.1 ho1.2 hb ?_
        refine xt_iload (j := 0) dX5_workState_183 rfl ?_
        refine xt_bipush (v := -2) dX5_workState_185 (by decide) ?_
        obtain ⟨ho20, H⟩ := H
        obtain ⟨hi, H⟩ := H
        obtain ⟨M21, eM21⟩ : ∃ z, z = wAI M b19 ((x1 * (mI M x0 1)) + x4 : Int32).toNatClampNeg (-2) := ⟨_, rfl⟩
        have H := H _ eM21
        refine xt_iast dX5_workState_187 ho20.1 ho20.2 hi ?_
        have ho1 : ok M21 x0 7 := by rw [eM21]; exact ho1
        rw [← eM21]
        refine xt_goto (tgt := 258) dX5_workState_188 (by decide) ?_
        exact xt_sub [1, 2, 3, 4, 5] rfl (VX5_workState_258 H)
def DX5_workState_131 (h : Nat) (x0 : Nat) (x1 : Int32) (x2 : Nat) (M : Mem) (Q : Option Value → Mem → Prop) : Prop :=
  ok M x2 2 ∧ E h mdX0_settle [.ref x2] M (fun r M2 => mE M M2 → r = none ∧ E h mdX0_stuckLanes [.ref x2] M2 (fun r M3 => mE M2 M3 → ∃ r4 : Int32, r = some (.int r4) ∧ T (h + 1) mdX5_workState 143 [(0, .ref x0), (1, .int x1), (2, .ref x2), (3, .int r4), (4, .int 0)] [] M3 Q))
set_option maxRecDepth 20000 in
set_option maxHeartbeats 2000000 in
theorem VX5_workState_131 {h : Nat} {x0 : Nat} {x1 : Int32} {x2 : Nat} {M : Mem} {Q : Option Value → Mem → Prop} (H : DX5_workState_131 h x0 x1 x2 M Q) : T (h + 1) mdX5_workState 131 [(0, .ref x0), (1, .int x1), (2, .ref x2)] [] M Q := by
  unfold DX5_workState_131 at H
  refine xt_aload_n (j := 2) dX5_workState_131 rfl rfl ?_
  obtain ⟨ho1, H⟩ := H
  refine xt_callV (h2 := h) (as := []) (st := []) dX5_workState_132 (mlX5_95 rfl) rfl ho1.1 ⟨by rw [ho1.2]; rfl, by rw [ho1.2]; decide⟩ (by first | decide | (simp [Value.category]; done)) (Nat.le_refl _) H (fun r M2 HH hE => ?_)
  obtain ⟨hr, H⟩ := HH hE
  subst hr
  have ho1 := ok_E ho1 hE
  show T _ _ _ _ [] _ _
  refine xt_aload_n (j := 2) dX5_workState_135 rfl rfl ?_
  refine xt_callV (h2 := h) (as := []) (st := []) dX5_workState_136 (mlX5_98 rfl) rfl ho1.1 ⟨by rw [ho1.2]; rfl, by rw [ho1.2]; decide⟩ (by first | decide | (simp [Value.category]; done)) (Nat.le_refl _) H (fun r M3 HH hE => ?_)
  obtain ⟨r4, hr, H⟩ := HH hE
  subst hr
  have ho1 := ok_E ho1 hE
  show T _ _ _ _ [.int r4] _ _
  refine xt_istore_n (lv' := [(3, .int r4), (0, .ref x0), (1, .int x1), (2, .ref x2)]) dX5_workState_139 rfl (by decide) rfl ?_
  refine xt_iconst (v := 0) dX5_workState_140 (by decide) ?_
  refine xt_istore (lv' := [(4, .int 0), (3, .int r4), (0, .ref x0), (1, .int x1), (2, .ref x2)]) dX5_workState_141 (by decide) rfl ?_
  exact xt_sub (lv' := [(0, .ref x0), (1, .int x1), (2, .ref x2), (3, .int r4), (4, .int 0)]) [2, 3, 4, 1, 0] rfl H
def DX5_workState_80 (h : Nat) (x0 : Nat) (x1 : Int32) (x2 : Nat) (x3 : Int32) (M : Mem) (Q : Option Value → Mem → Prop) : Prop :=
  ok M x0 7 ∧ ∃ b2 : Nat, mR M x0 0 = some b2 ∧ ok M b2 3 ∧ ((mI M b2 14) ≤ x3 → DX5_workState_131 h x0 x1 x2 M Q) ∧
  (¬ ((mI M b2 14) ≤ x3) → ∃ b4 : Nat, mR M x0 0 = some b4 ∧ ok M b4 3 ∧ (5 ≤ ((mI M b4 10) + x3) → DX5_workState_131 h x0 x1 x2 M Q) ∧
  (¬ (5 ≤ ((mI M b4 10) + x3)) → ∃ b6 : Nat, mR M x0 0 = some b6 ∧ ok M b6 3 ∧ vp_in ((mI M b6 10) + x3) 5 ∧ ok M x2 2 ∧ E h mdX0_tellIf [.ref x2, .int x3, .int (laneB.getD ((mI M b6 10) + x3 : Int32).toNatClampNeg 0)] M (fun r M9 => mE M M9 → r = none ∧ T (h + 1) mdX5_workState 80 [(0, .ref x0), (1, .int x1), (2, .ref x2), (3, .int (x3 + 1))] [] M9 Q)))
set_option maxRecDepth 20000 in
set_option maxHeartbeats 2000000 in
theorem VX5_workState_80 {h : Nat} {x0 : Nat} {x1 : Int32} {x2 : Nat} {x3 : Int32} {M : Mem} {Q : Option Value → Mem → Prop} (H : DX5_workState_80 h x0 x1 x2 x3 M Q) : T (h + 1) mdX5_workState 80 [(0, .ref x0), (1, .int x1), (2, .ref x2), (3, .int x3)] [] M Q := by
  unfold DX5_workState_80 at H
  refine xt_iload_n (j := 3) dX5_workState_80 rfl rfl ?_
  refine xt_aload_n (j := 0) dX5_workState_81 rfl rfl ?_
  obtain ⟨ho1, H⟩ := H
  obtain ⟨b2, hb, H⟩ := H
  refine xt_getR dX5_workState_82 (flX5_9 rfl) ft_7_0 ho1.1 ho1.2 hb ?_
  obtain ⟨ho3, H⟩ := H
  refine xt_getI dX5_workState_85 (flX5_21 rfl) ft_3_14 ho3.1 ho3.2 ?_
  refine xt_icmp_ge (tgt := 131) dX5_workState_88 (by decide) (fun hc => ?_) (fun hc => ?_)
  · have H := H.1 hc
    exact xt_sub [0, 1, 2] rfl (VX5_workState_131 H)
  · have H := H.2 hc
    refine xt_aload_n (j := 0) dX5_workState_91 rfl rfl ?_
    obtain ⟨b4, hb, H⟩ := H
    refine xt_getR dX5_workState_92 (flX5_9 rfl) ft_7_0 ho1.1 ho1.2 hb ?_
    obtain ⟨ho5, H⟩ := H
    refine xt_getI dX5_workState_95 (flX5_15 rfl) ft_3_10 ho5.1 ho5.2 ?_
    refine xt_iload_n (j := 3) dX5_workState_98 rfl rfl ?_
    refine xt_iadd dX5_workState_99 ?_
    refine xt_gsL dX5_workState_100 (gsX5_82 rfl) ?_
    refine xt_spLl dX5_workState_103 ?_
    refine xt_icmp_ge (tgt := 131) dX5_workState_104 (by decide) (fun hc => ?_) (fun hc => ?_)
    · have H := H.1 hc
      exact xt_sub [0, 1, 2] rfl (VX5_workState_131 H)
    · have H := H.2 hc
      refine xt_aload_n (j := 2) dX5_workState_107 rfl rfl ?_
      refine xt_iload_n (j := 3) dX5_workState_108 rfl rfl ?_
      refine xt_gsL dX5_workState_109 (gsX5_82 rfl) ?_
      refine xt_aload_n (j := 0) dX5_workState_112 rfl rfl ?_
      obtain ⟨b6, hb, H⟩ := H
      refine xt_getR dX5_workState_113 (flX5_9 rfl) ft_7_0 ho1.1 ho1.2 hb ?_
      obtain ⟨ho7, H⟩ := H
      refine xt_getI dX5_workState_116 (flX5_15 rfl) ft_3_10 ho7.1 ho7.2 ?_
      refine xt_iload_n (j := 3) dX5_workState_119 rfl rfl ?_
      refine xt_iadd dX5_workState_120 ?_
      obtain ⟨hi, H⟩ := H
      refine xt_spL dX5_workState_121 hi ?_
      obtain ⟨ho8, H⟩ := H
      refine xt_callV (h2 := h) (as := [.int x3, .int (laneB.getD ((mI M b6 10) + x3 : Int32).toNatClampNeg 0)]) (st := []) dX5_workState_122 (mlX5_92 rfl) rfl ho8.1 ⟨by rw [ho8.2]; rfl, by rw [ho8.2]; decide⟩ (by first | decide | (simp [Value.category]; done)) (Nat.le_refl _) H (fun r M9 HH hE => ?_)
      obtain ⟨hr, H⟩ := HH hE
      subst hr
      have ho1 := ok_E ho1 hE
      have ho8 := ok_E ho8 hE
      show T _ _ _ _ [] _ _
      refine xt_iinc (j := 3) (v := x3 + 1) (lv' := [(3, .int (x3 + 1)), (0, .ref x0), (1, .int x1), (2, .ref x2)]) dX5_workState_125 rfl (by rfl) (by decide) rfl ?_
      refine xt_goto (tgt := 80) dX5_workState_128 (by decide) ?_
      exact xt_sub (lv' := [(0, .ref x0), (1, .int x1), (2, .ref x2), (3, .int (x3 + 1))]) [1, 2, 3, 0] rfl H
def DX5_workState_78 (h : Nat) (x0 : Nat) (x1 : Int32) (x2 : Nat) (M : Mem) (Q : Option Value → Mem → Prop) : Prop :=
  T (h + 1) mdX5_workState 80 [(0, .ref x0), (1, .int x1), (2, .ref x2), (3, .int 0)] [] M Q
set_option maxRecDepth 20000 in
set_option maxHeartbeats 2000000 in
theorem VX5_workState_78 {h : Nat} {x0 : Nat} {x1 : Int32} {x2 : Nat} {M : Mem} {Q : Option Value → Mem → Prop} (H : DX5_workState_78 h x0 x1 x2 M Q) : T (h + 1) mdX5_workState 78 [(0, .ref x0), (1, .int x1), (2, .ref x2)] [] M Q := by
  unfold DX5_workState_78 at H
  refine xt_iconst (v := 0) dX5_workState_78 (by decide) ?_
  refine xt_istore_n (lv' := [(3, .int 0), (0, .ref x0), (1, .int x1), (2, .ref x2)]) dX5_workState_79 rfl (by decide) rfl ?_
  exact xt_sub (lv' := [(0, .ref x0), (1, .int x1), (2, .ref x2), (3, .int 0)]) [1, 2, 3, 0] rfl H
def DX5_workState_35 (h : Nat) (x0 : Nat) (x1 : Int32) (x2 : Nat) (x3 : Int32) (M : Mem) (Q : Option Value → Mem → Prop) : Prop :=
  ok M x0 7 ∧ ∃ b2 : Nat, mR M x0 0 = some b2 ∧ ok M b2 3 ∧ ((mI M b2 10) ≤ x3 → DX5_workState_78 h x0 x1 x2 M Q) ∧
  (¬ ((mI M b2 10) ≤ x3) → (5 ≤ x3 → DX5_workState_78 h x0 x1 x2 M Q) ∧
  (¬ (5 ≤ x3) → ∃ b4 : Nat, mR M x0 0 = some b4 ∧ ok M b4 3 ∧ ∃ b6 : Nat, mR M b4 3 = some b6 ∧ ok M b6 21 ∧ vp_in x3 (mL M b6) ∧ vp_in x3 5 ∧ ok M x2 2 ∧ E h mdX0_tellInput [.ref x2, .int (mAI M b6 (x3 : Int32).toNatClampNeg), .int (laneB.getD (x3 : Int32).toNatClampNeg 0)] M (fun r M9 => mE M M9 → r = none ∧ T (h + 1) mdX5_workState 35 [(0, .ref x0), (1, .int x1), (2, .ref x2), (3, .int (x3 + 1))] [] M9 Q)))
set_option maxRecDepth 20000 in
set_option maxHeartbeats 2000000 in
theorem VX5_workState_35 {h : Nat} {x0 : Nat} {x1 : Int32} {x2 : Nat} {x3 : Int32} {M : Mem} {Q : Option Value → Mem → Prop} (H : DX5_workState_35 h x0 x1 x2 x3 M Q) : T (h + 1) mdX5_workState 35 [(0, .ref x0), (1, .int x1), (2, .ref x2), (3, .int x3)] [] M Q := by
  unfold DX5_workState_35 at H
  refine xt_iload_n (j := 3) dX5_workState_35 rfl rfl ?_
  refine xt_aload_n (j := 0) dX5_workState_36 rfl rfl ?_
  obtain ⟨ho1, H⟩ := H
  obtain ⟨b2, hb, H⟩ := H
  refine xt_getR dX5_workState_37 (flX5_9 rfl) ft_7_0 ho1.1 ho1.2 hb ?_
  obtain ⟨ho3, H⟩ := H
  refine xt_getI dX5_workState_40 (flX5_15 rfl) ft_3_10 ho3.1 ho3.2 ?_
  refine xt_icmp_ge (tgt := 78) dX5_workState_43 (by decide) (fun hc => ?_) (fun hc => ?_)
  · have H := H.1 hc
    exact xt_sub [0, 1, 2] rfl (VX5_workState_78 H)
  · have H := H.2 hc
    refine xt_iload_n (j := 3) dX5_workState_46 rfl rfl ?_
    refine xt_gsL dX5_workState_47 (gsX5_82 rfl) ?_
    refine xt_spLl dX5_workState_50 ?_
    refine xt_icmp_ge (tgt := 78) dX5_workState_51 (by decide) (fun hc => ?_) (fun hc => ?_)
    · have H := H.1 hc
      exact xt_sub [0, 1, 2] rfl (VX5_workState_78 H)
    · have H := H.2 hc
      refine xt_aload_n (j := 2) dX5_workState_54 rfl rfl ?_
      refine xt_aload_n (j := 0) dX5_workState_55 rfl rfl ?_
      obtain ⟨b4, hb, H⟩ := H
      refine xt_getR dX5_workState_56 (flX5_9 rfl) ft_7_0 ho1.1 ho1.2 hb ?_
      obtain ⟨ho5, H⟩ := H
      obtain ⟨b6, hb, H⟩ := H
      refine xt_getR dX5_workState_59 (flX5_85 rfl) ft_3_3 ho5.1 ho5.2 hb ?_
      refine xt_iload_n (j := 3) dX5_workState_62 rfl rfl ?_
      obtain ⟨ho7, H⟩ := H
      obtain ⟨hi, H⟩ := H
      refine xt_iald dX5_workState_63 ho7.1 ho7.2 hi ?_
      refine xt_gsL dX5_workState_64 (gsX5_82 rfl) ?_
      refine xt_iload_n (j := 3) dX5_workState_67 rfl rfl ?_
      obtain ⟨hi, H⟩ := H
      refine xt_spL dX5_workState_68 hi ?_
      obtain ⟨ho8, H⟩ := H
      refine xt_callV (h2 := h) (as := [.int (mAI M b6 (x3 : Int32).toNatClampNeg), .int (laneB.getD (x3 : Int32).toNatClampNeg 0)]) (st := []) dX5_workState_69 (mlX5_88 rfl) rfl ho8.1 ⟨by rw [ho8.2]; rfl, by rw [ho8.2]; decide⟩ (by first | decide | (simp [Value.category]; done)) (Nat.le_refl _) H (fun r M9 HH hE => ?_)
      obtain ⟨hr, H⟩ := HH hE
      subst hr
      have ho1 := ok_E ho1 hE
      have ho8 := ok_E ho8 hE
      show T _ _ _ _ [] _ _
      refine xt_iinc (j := 3) (v := x3 + 1) (lv' := [(3, .int (x3 + 1)), (0, .ref x0), (1, .int x1), (2, .ref x2)]) dX5_workState_72 rfl (by rfl) (by decide) rfl ?_
      refine xt_goto (tgt := 35) dX5_workState_75 (by decide) ?_
      exact xt_sub (lv' := [(0, .ref x0), (1, .int x1), (2, .ref x2), (3, .int (x3 + 1))]) [1, 2, 3, 0] rfl H
def DX5_workState_30 (h : Nat) (x0 : Nat) (x1 : Int32) (x2 : Nat) (s0 : Nat) (s1 : Int32) (s2 : Int32) (s3 : Int32) (M : Mem) (Q : Option Value → Mem → Prop) : Prop :=
  ok M s0 2 ∧ E h mdX0_stand [.ref s0, .int s1, .int s2, .int s3] M (fun r M2 => mE M M2 → r = none ∧ T (h + 1) mdX5_workState 35 [(0, .ref x0), (1, .int x1), (2, .ref x2), (3, .int 0)] [] M2 Q)
set_option maxRecDepth 20000 in
set_option maxHeartbeats 2000000 in
theorem VX5_workState_30 {h : Nat} {x0 : Nat} {x1 : Int32} {x2 : Nat} {s0 : Nat} {s1 : Int32} {s2 : Int32} {s3 : Int32} {M : Mem} {Q : Option Value → Mem → Prop} (H : DX5_workState_30 h x0 x1 x2 s0 s1 s2 s3 M Q) : T (h + 1) mdX5_workState 30 [(0, .ref x0), (1, .int x1), (2, .ref x2)] [.int s3, .int s2, .int s1, .ref s0] M Q := by
  unfold DX5_workState_30 at H
  obtain ⟨ho1, H⟩ := H
  refine xt_callV (h2 := h) (as := [.int s1, .int s2, .int s3]) (st := []) dX5_workState_30 (mlX5_78 rfl) rfl ho1.1 ⟨by rw [ho1.2]; rfl, by rw [ho1.2]; decide⟩ (by first | decide | (simp [Value.category]; done)) (Nat.le_refl _) H (fun r M2 HH hE => ?_)
  obtain ⟨hr, H⟩ := HH hE
  subst hr
  show T _ _ _ _ [] _ _
  refine xt_iconst (v := 0) dX5_workState_33 (by decide) ?_
  refine xt_istore_n (lv' := [(3, .int 0), (0, .ref x0), (1, .int x1), (2, .ref x2)]) dX5_workState_34 rfl (by decide) rfl ?_
  exact xt_sub (lv' := [(0, .ref x0), (1, .int x1), (2, .ref x2), (3, .int 0)]) [1, 2, 3, 0] rfl H
def DX5_workState_0 (h : Nat) (x0 : Nat) (x1 : Int32) (M : Mem) (Q : Option Value → Mem → Prop) : Prop :=
  ok M x0 7 ∧ ∃ b2 : Nat, mR M x0 0 = some b2 ∧ ok M b2 3 ∧ ∃ b4 : Nat, mR M b2 7 = some b4 ∧ ∃ b5 : Nat, mR M x0 5 = some b5 ∧ ok M b5 21 ∧ vp_in x1 (mL M b5) ∧ ∃ b7 : Nat, mR M x0 6 = some b7 ∧ ok M b7 21 ∧ vp_in x1 (mL M b7) ∧ (¬ x1 = 0 → DX5_workState_30 h x0 x1 b4 b4 (mAI M b5 (x1 : Int32).toNatClampNeg) (mAI M b7 (x1 : Int32).toNatClampNeg) 0 M Q) ∧
  (x1 = 0 → DX5_workState_30 h x0 x1 b4 b4 (mAI M b5 (x1 : Int32).toNatClampNeg) (mAI M b7 (x1 : Int32).toNatClampNeg) 1 M Q)
set_option maxRecDepth 20000 in
set_option maxHeartbeats 2000000 in
theorem VX5_workState_0 {h : Nat} {x0 : Nat} {x1 : Int32} {M : Mem} {Q : Option Value → Mem → Prop} (H : DX5_workState_0 h x0 x1 M Q) : T (h + 1) mdX5_workState 0 [(0, .ref x0), (1, .int x1)] [] M Q := by
  unfold DX5_workState_0 at H
  refine xt_aload_n (j := 0) dX5_workState_0 rfl rfl ?_
  obtain ⟨ho1, H⟩ := H
  obtain ⟨b2, hb, H⟩ := H
  refine xt_getR dX5_workState_1 (flX5_9 rfl) ft_7_0 ho1.1 ho1.2 hb ?_
  obtain ⟨ho3, H⟩ := H
  obtain ⟨b4, hb, H⟩ := H
  refine xt_getR dX5_workState_4 (flX5_31 rfl) ft_3_7 ho3.1 ho3.2 hb ?_
  refine xt_astore_n (lv' := [(2, .ref b4), (0, .ref x0), (1, .int x1)]) dX5_workState_7 rfl (by decide) rfl ?_
  refine xt_aload_n (j := 0) dX5_workState_8 rfl rfl ?_
  refine xt_aload_n (j := 1) dX5_workState_9 rfl rfl ?_
  obtain ⟨b5, hb, H⟩ := H
  refine xt_getR dX5_workState_10 (flX5_43 rfl) ft_7_5 ho1.1 ho1.2 hb ?_
  refine xt_iload_n (j := 2) dX5_workState_13 rfl rfl ?_
  obtain ⟨ho6, H⟩ := H
  obtain ⟨hi, H⟩ := H
  refine xt_iald dX5_workState_14 ho6.1 ho6.2 hi ?_
  refine xt_aload_n (j := 1) dX5_workState_15 rfl rfl ?_
  obtain ⟨b7, hb, H⟩ := H
  refine xt_getR dX5_workState_16 (flX5_47 rfl) ft_7_6 ho1.1 ho1.2 hb ?_
  refine xt_iload_n (j := 2) dX5_workState_19 rfl rfl ?_
  obtain ⟨ho8, H⟩ := H
  obtain ⟨hi, H⟩ := H
  refine xt_iald dX5_workState_20 ho8.1 ho8.2 hi ?_
  refine xt_iload_n (j := 2) dX5_workState_21 rfl rfl ?_
  refine xt_if_ne (tgt := 29) dX5_workState_22 (by decide) (fun hc => ?_) (fun hc => ?_)
  · have H := H.1 hc
    refine xt_iconst (v := 0) dX5_workState_29 (by decide) ?_
    exact xt_sub [1, 2, 0] rfl (VX5_workState_30 H)
  · have H := H.2 hc
    refine xt_iconst (v := 1) dX5_workState_25 (by decide) ?_
    refine xt_goto (tgt := 30) dX5_workState_26 (by decide) ?_
    exact xt_sub [1, 2, 0] rfl (VX5_workState_30 H)
theorem KX5_workState {h : Nat} {x0 : Nat} {x1 : Int32} {M : Mem} {Q : Option Value → Mem → Prop} (H : DX5_workState_0 h x0 x1 M Q) : E (h + 1) mdX5_workState [.ref x0, .int x1] M Q := E.of (by decide) (Nat.le_of_ble_eq_true rfl) (fun _ _ _ => trivial) (VX5_workState_0 H)
def DX7_init_107 (h : Nat) (M : Mem) (Q : Option Value → Mem → Prop) : Prop :=
  Q none M
set_option maxRecDepth 20000 in
set_option maxHeartbeats 2000000 in
theorem VX7_init_107 {h : Nat} {M : Mem} {Q : Option Value → Mem → Prop} (H : DX7_init_107 h  M Q) : T (h + 1) mdX7_init 107 [] [] M Q := by
  unfold DX7_init_107 at H
  exact xt_return dX7_init_107 rfl H
def DX7_init_101 (h : Nat) (x0 : Nat) (x2 : Int32) (x3 : Int32) (M : Mem) (Q : Option Value → Mem → Prop) : Prop :=
  T (h + 1) mdX7_init 48 [(0, .ref x0), (2, .int x2), (3, .int (x3 + 1))] [] M Q
set_option maxRecDepth 20000 in
set_option maxHeartbeats 2000000 in
theorem VX7_init_101 {h : Nat} {x0 : Nat} {x2 : Int32} {x3 : Int32} {M : Mem} {Q : Option Value → Mem → Prop} (H : DX7_init_101 h x0 x2 x3 M Q) : T (h + 1) mdX7_init 101 [(0, .ref x0), (2, .int x2), (3, .int x3)] [] M Q := by
  unfold DX7_init_101 at H
  refine xt_iinc (j := 2) (v := x3 + 1) (lv' := [(3, .int (x3 + 1)), (0, .ref x0), (2, .int x2)]) dX7_init_101 rfl (by rfl) (by decide) rfl ?_
  refine xt_goto (tgt := 48) dX7_init_104 (by decide) ?_
  exact xt_sub (lv' := [(0, .ref x0), (2, .int x2), (3, .int (x3 + 1))]) [1, 2, 0] rfl H
def DX7_init_48 (h : Nat) (x0 : Nat) (x2 : Int32) (x3 : Int32) (M : Mem) (Q : Option Value → Mem → Prop) : Prop :=
  E h mdJ0_length_8abf5 [.ref (mBig + 1)] M (fun r M1 => mE M M1 → ∃ r2 : Int32, r = some (.int r2) ∧ (r2 ≤ x3 → DX7_init_107 h  M1 Q) ∧
  (¬ (r2 ≤ x3) → (33 ≤ x2 → DX7_init_107 h  M1 Q) ∧
  (¬ (33 ≤ x2) → E h mdJ0_charAt_5068e [.ref (mBig + 1), .int x3] M1 (fun r M3 => mE M1 M3 → ∃ r4 : Int32, r = some (.int r4) ∧ (¬ r4 = 32 → ok M3 x0 9 ∧ ∃ b6 : Nat, mR M3 x0 1 = some b6 ∧ ∃ b7 : Nat, mR M3 x0 1 = some b7 ∧ ok M3 b7 23 ∧ vp_in x2 (mL M3 b7) ∧ E h mdJ0_charAt_5068e [.ref (mBig + 1), .int x3] M3 (fun r M9 => mE M3 M9 → ∃ r10 : Int32, r = some (.int r10) ∧ E h mdX7_spelled [.long (mAJ M3 b7 (x2 : Int32).toNatClampNeg), .int r10] M9 (fun r M11 => mE M9 M11 → ∃ r12 : Int64, r = some (.long r12) ∧ ok M11 b6 23 ∧ vp_in x2 (mL M11 b6) ∧ ∀ M14 : Mem, M14 = wAJ M11 b6 (x2 : Int32).toNatClampNeg r12 →
  DX7_init_101 h x0 x2 x3 M14 Q))) ∧
  (r4 = 32 → DX7_init_101 h x0 (x2 + 1) x3 M3 Q)))))
set_option maxRecDepth 20000 in
set_option maxHeartbeats 2000000 in
theorem VX7_init_48 {h : Nat} {x0 : Nat} {x2 : Int32} {x3 : Int32} {M : Mem} {Q : Option Value → Mem → Prop} (H : DX7_init_48 h x0 x2 x3 M Q) : T (h + 1) mdX7_init 48 [(0, .ref x0), (2, .int x2), (3, .int x3)] [] M Q := by
  unfold DX7_init_48 at H
  refine xt_iload_n (j := 2) dX7_init_48 rfl rfl ?_
  refine xt_ldcK dX7_init_49 rfl ?_
  refine xt_callX (j := 1) (h2 := h) (as := []) (st := [.int x3]) dX7_init_51 (mlX7_31 rfl) rfl (Or.inl ⟨by omega, rfl⟩) (by first | decide | (simp [Value.category]; done)) (Nat.le_refl _) H (fun r M1 HH hE => ?_)
  obtain ⟨r2, hr, H⟩ := HH hE
  subst hr
  show T _ _ _ _ [.int r2, .int x3] _ _
  refine xt_icmp_ge (tgt := 107) dX7_init_54 (by decide) (fun hc => ?_) (fun hc => ?_)
  · have H := H.1 hc
    exact xt_sub [] rfl (VX7_init_107 H)
  · have H := H.2 hc
    refine xt_iload_n (j := 1) dX7_init_57 rfl rfl ?_
    refine xt_bipush (v := 33) dX7_init_58 (by decide) ?_
    refine xt_icmp_ge (tgt := 107) dX7_init_60 (by decide) (fun hc => ?_) (fun hc => ?_)
    · have H := H.1 hc
      exact xt_sub [] rfl (VX7_init_107 H)
    · have H := H.2 hc
      refine xt_ldcK dX7_init_63 rfl ?_
      refine xt_iload_n (j := 2) dX7_init_65 rfl rfl ?_
      refine xt_callX (j := 1) (h2 := h) (as := [.int x3]) (st := []) dX7_init_66 (mlX7_37 rfl) rfl (Or.inl ⟨by omega, rfl⟩) (by first | decide | (simp [Value.category]; done)) (Nat.le_refl _) H (fun r M3 HH hE => ?_)
      obtain ⟨r4, hr, H⟩ := HH hE
      subst hr
      show T _ _ _ _ [.int r4] _ _
      refine xt_bipush (v := 32) dX7_init_69 (by decide) ?_
      refine xt_icmp_ne (tgt := 80) dX7_init_71 (by decide) (fun hc => ?_) (fun hc => ?_)
      · have H := H.1 hc
        refine xt_aload_n (j := 0) dX7_init_80 rfl rfl ?_
        obtain ⟨ho5, H⟩ := H
        obtain ⟨b6, hb, H⟩ := H
        refine xt_getR dX7_init_81 (flX7_26 rfl) ft_9_1 ho5.1 ho5.2 hb ?_
        refine xt_iload_n (j := 1) dX7_init_84 rfl rfl ?_
        refine xt_aload_n (j := 0) dX7_init_85 rfl rfl ?_
        obtain ⟨b7, hb, H⟩ := H
        refine xt_getR dX7_init_86 (flX7_26 rfl) ft_9_1 ho5.1 ho5.2 hb ?_
        refine xt_iload_n (j := 1) dX7_init_89 rfl rfl ?_
        obtain ⟨ho8, H⟩ := H
        obtain ⟨hi, H⟩ := H
        refine xt_lald dX7_init_90 ho8.1 ho8.2 hi ?_
        refine xt_ldcK dX7_init_91 rfl ?_
        refine xt_iload_n (j := 2) dX7_init_93 rfl rfl ?_
        refine xt_callX (j := 1) (h2 := h) (as := [.int x3]) (st := [.long (mAJ M3 b7 (x2 : Int32).toNatClampNeg), .int x2, .ref b6]) dX7_init_94 (mlX7_37 rfl) rfl (Or.inl ⟨by omega, rfl⟩) (by first | decide | (simp [Value.category]; done)) (Nat.le_refl _) H (fun r M9 HH hE => ?_)
        obtain ⟨r10, hr, H⟩ := HH hE
        subst hr
        have ho5 := ok_E ho5 hE
        show T _ _ _ _ [.int r10, .long (mAJ M3 b7 (x2 : Int32).toNatClampNeg), .int x2, .ref b6] _ _
        refine xt_callS (h2 := h) (as := [.long (mAJ M3 b7 (x2 : Int32).toNatClampNeg), .int r10]) (st := [.int x2, .ref b6]) dX7_init_97 (mlX7_41 rfl) rfl (by first | decide | (simp [Value.category]; done)) (Nat.le_refl _) H (fun r M11 HH hE => ?_)
        obtain ⟨r12, hr, H⟩ := HH hE
        subst hr
        have ho5 := ok_E ho5 hE
        show T _ _ _ _ [.long r12, .int x2, .ref b6] _ _
        obtain ⟨ho13, H⟩ := H
        obtain ⟨hi, H⟩ := H
        obtain ⟨M14, eM14⟩ : ∃ z, z = wAJ M11 b6 (x2 : Int32).toNatClampNeg r12 := ⟨_, rfl⟩
        have H := H _ eM14
        refine xt_last dX7_init_100 ho13.1 ho13.2 hi ?_
        have ho5 : ok M14 x0 9 := by rw [eM14]; exact ho5
        rw [← eM14]
        exact xt_sub [0, 1, 2] rfl (VX7_init_101 H)
      · have H := H.2 hc
        refine xt_iinc (j := 1) (v := x2 + 1) (lv' := [(2, .int (x2 + 1)), (0, .ref x0), (3, .int x3)]) dX7_init_74 rfl (by rfl) (by decide) rfl ?_
        refine xt_goto (tgt := 101) dX7_init_77 (by decide) ?_
        exact xt_sub [1, 0, 2] rfl (VX7_init_101 H)
def DX7_init_0 (h : Nat) (x0 : Nat) (x1 : Nat) (M : Mem) (Q : Option Value → Mem → Prop) : Prop :=
  ¬ (801 : Int32) < 0 ∧ ((801 : Int32).toNatClampNeg ≤ 100000000) ∧ ∀ (q2 : Nat) (M1 : Mem), q2 = mN M → M1 = nwA M 21 ((801 : Int32).toNatClampNeg) →
  ok M1 x0 9 ∧ ∀ M4 : Mem, M4 = wR M1 x0 4 (some q2) →
  ¬ (801 : Int32) < 0 ∧ ((801 : Int32).toNatClampNeg ≤ 100000000) ∧ ∀ (q6 : Nat) (M5 : Mem), q6 = mN M4 → M5 = nwA M4 21 ((801 : Int32).toNatClampNeg) →
  ∀ M7 : Mem, M7 = wR M5 x0 5 (some q6) →
  ¬ (801 : Int32) < 0 ∧ ((801 : Int32).toNatClampNeg ≤ 60000000) ∧ ∀ (q9 : Nat) (M8 : Mem), q9 = mN M7 → M8 = nwA M7 23 ((801 : Int32).toNatClampNeg) →
  ∀ M10 : Mem, M10 = wR M8 x0 6 (some q9) →
  ∀ M11 : Mem, M11 = wR M10 x0 0 (some x1) →
  ¬ (33 : Int32) < 0 ∧ ((33 : Int32).toNatClampNeg ≤ 60000000) ∧ ∀ (q13 : Nat) (M12 : Mem), q13 = mN M11 → M12 = nwA M11 23 ((33 : Int32).toNatClampNeg) →
  ∀ M14 : Mem, M14 = wR M12 x0 1 (some q13) →
  T (h + 1) mdX7_init 48 [(0, .ref x0), (2, .int 0), (3, .int 0)] [] M14 Q
set_option maxRecDepth 20000 in
set_option maxHeartbeats 2000000 in
theorem VX7_init_0 {h : Nat} {x0 : Nat} {x1 : Nat} {M : Mem} {Q : Option Value → Mem → Prop} (H : DX7_init_0 h x0 x1 M Q) : T (h + 1) mdX7_init 0 [(0, .ref x0), (1, .ref x1)] [] M Q := by
  unfold DX7_init_0 at H
  refine xt_aload_n (j := 0) dX7_init_0 rfl rfl ?_
  refine xt_objInit dX7_init_1 (oiX7_3 rfl) (by decide) (Nat.succ_le_succ (Nat.zero_le _)) ?_
  refine xt_aload_n (j := 0) dX7_init_4 rfl rfl ?_
  refine xt_sipush (v := 801) dX7_init_5 (by decide) ?_
  obtain ⟨hn, hy, H⟩ := H
  obtain ⟨M1, eM1⟩ : ∃ z, z = nwA M 21 ((801 : Int32).toNatClampNeg) := ⟨_, rfl⟩
  obtain ⟨q2, eq2⟩ : ∃ z, z = mN M := ⟨_, rfl⟩
  have H := H _ _ eq2 eM1
  refine xt_newI dX7_init_8 ac_I hn rfl hy ?_
  rw [← eM1, ← eq2]
  obtain ⟨ho3, H⟩ := H
  obtain ⟨M4, eM4⟩ : ∃ z, z = wR M1 x0 4 (some q2) := ⟨_, rfl⟩
  have H := H _ eM4
  refine xt_putR dX7_init_10 (flX7_9 rfl) ft_9_4 rfl ho3.1 ho3.2 ?_
  have ho3 : ok M4 x0 9 := by rw [eM4]; exact ho3
  rw [← eM4]
  refine xt_aload_n (j := 0) dX7_init_13 rfl rfl ?_
  refine xt_sipush (v := 801) dX7_init_14 (by decide) ?_
  obtain ⟨hn, hy, H⟩ := H
  obtain ⟨M5, eM5⟩ : ∃ z, z = nwA M4 21 ((801 : Int32).toNatClampNeg) := ⟨_, rfl⟩
  obtain ⟨q6, eq6⟩ : ∃ z, z = mN M4 := ⟨_, rfl⟩
  have H := H _ _ eq6 eM5
  refine xt_newI dX7_init_17 ac_I hn rfl hy ?_
  have ho3 : ok M5 x0 9 := by rw [eM5]; exact ok_nwA ho3
  rw [← eM5, ← eq6]
  obtain ⟨M7, eM7⟩ : ∃ z, z = wR M5 x0 5 (some q6) := ⟨_, rfl⟩
  have H := H _ eM7
  refine xt_putR dX7_init_19 (flX7_15 rfl) ft_9_5 rfl ho3.1 ho3.2 ?_
  have ho3 : ok M7 x0 9 := by rw [eM7]; exact ho3
  rw [← eM7]
  refine xt_aload_n (j := 0) dX7_init_22 rfl rfl ?_
  refine xt_sipush (v := 801) dX7_init_23 (by decide) ?_
  obtain ⟨hn, hy, H⟩ := H
  obtain ⟨M8, eM8⟩ : ∃ z, z = nwA M7 23 ((801 : Int32).toNatClampNeg) := ⟨_, rfl⟩
  obtain ⟨q9, eq9⟩ : ∃ z, z = mN M7 := ⟨_, rfl⟩
  have H := H _ _ eq9 eM8
  refine xt_newJ dX7_init_26 ac_J hn rfl hy ?_
  have ho3 : ok M8 x0 9 := by rw [eM8]; exact ok_nwA ho3
  rw [← eM8, ← eq9]
  obtain ⟨M10, eM10⟩ : ∃ z, z = wR M8 x0 6 (some q9) := ⟨_, rfl⟩
  have H := H _ eM10
  refine xt_putR dX7_init_28 (flX7_18 rfl) ft_9_6 rfl ho3.1 ho3.2 ?_
  have ho3 : ok M10 x0 9 := by rw [eM10]; exact ho3
  rw [← eM10]
  refine xt_aload_n (j := 0) dX7_init_31 rfl rfl ?_
  refine xt_aload_n (j := 1) dX7_init_32 rfl rfl ?_
  obtain ⟨M11, eM11⟩ : ∃ z, z = wR M10 x0 0 (some x1) := ⟨_, rfl⟩
  have H := H _ eM11
  refine xt_putR dX7_init_33 (flX7_22 rfl) ft_9_0 rfl ho3.1 ho3.2 ?_
  have ho3 : ok M11 x0 9 := by rw [eM11]; exact ho3
  rw [← eM11]
  refine xt_aload_n (j := 0) dX7_init_36 rfl rfl ?_
  refine xt_bipush (v := 33) dX7_init_37 (by decide) ?_
  obtain ⟨hn, hy, H⟩ := H
  obtain ⟨M12, eM12⟩ : ∃ z, z = nwA M11 23 ((33 : Int32).toNatClampNeg) := ⟨_, rfl⟩
  obtain ⟨q13, eq13⟩ : ∃ z, z = mN M11 := ⟨_, rfl⟩
  have H := H _ _ eq13 eM12
  refine xt_newJ dX7_init_39 ac_J hn rfl hy ?_
  have ho3 : ok M12 x0 9 := by rw [eM12]; exact ok_nwA ho3
  rw [← eM12, ← eq13]
  obtain ⟨M14, eM14⟩ : ∃ z, z = wR M12 x0 1 (some q13) := ⟨_, rfl⟩
  have H := H _ eM14
  refine xt_putR dX7_init_41 (flX7_26 rfl) ft_9_1 rfl ho3.1 ho3.2 ?_
  have ho3 : ok M14 x0 9 := by rw [eM14]; exact ho3
  rw [← eM14]
  refine xt_iconst (v := 0) dX7_init_44 (by decide) ?_
  refine xt_istore_n (lv' := [(2, .int 0), (0, .ref x0), (1, .ref x1)]) dX7_init_45 rfl (by decide) rfl ?_
  refine xt_iconst (v := 0) dX7_init_46 (by decide) ?_
  refine xt_istore_n (lv' := [(3, .int 0), (2, .int 0), (0, .ref x0), (1, .ref x1)]) dX7_init_47 rfl (by decide) rfl ?_
  exact xt_sub (lv' := [(0, .ref x0), (2, .int 0), (3, .int 0)]) [2, 1, 0] rfl H
theorem KX7_init {h : Nat} {x0 : Nat} {x1 : Nat} {M : Mem} {Q : Option Value → Mem → Prop} (H : DX7_init_0 h x0 x1 M Q) : E (h + 1) mdX7_init [.ref x0, .ref x1] M Q := E.of (by decide) (Nat.le_of_ble_eq_true rfl) (fun _ _ _ => trivial) (VX7_init_0 H)
def DX7_signKind_0 (h : Nat) (x0 : Nat) (x1 : Int32) (M : Mem) (Q : Option Value → Mem → Prop) : Prop :=
  ok M x0 9 ∧ ∀ M2 : Mem, M2 = wI M x0 3 ((mI M x0 3) + 1) →
  E h mdJ0_indexOf_0f7a4 [.ref (mBig + 2), .int (((x1 : Int32).toUInt32 % 65536).toInt32)] M2 (fun r M3 => mE M2 M3 → ∃ r4 : Int32, r = some (.int r4) ∧ (r4 < 0 → (x1 = 33 → E h mdX7_withNext [.ref x0, .int 61, .int 8, .int 0] M3 (fun r M5 => mE M3 M5 → ∃ r6 : Int32, r = some (.int r6) ∧ Q (some (.int r6)) M5)) ∧
  (x1 = 58 → E h mdX7_withNext [.ref x0, .int 61, .int 5, .int 4] M3 (fun r M7 => mE M3 M7 → ∃ r8 : Int32, r = some (.int r8) ∧ Q (some (.int r8)) M7)) ∧
  (x1 = 60 → E h mdX7_withNext [.ref x0, .int 61, .int 10, .int 9] M3 (fun r M9 => mE M3 M9 → ∃ r10 : Int32, r = some (.int r10) ∧ Q (some (.int r10)) M9)) ∧
  (x1 = 61 → Q (some (.int 7)) M3) ∧
  (x1 = 62 → E h mdX7_withNext [.ref x0, .int 61, .int 12, .int 11] M3 (fun r M11 => mE M3 M11 → ∃ r12 : Int32, r = some (.int r12) ∧ Q (some (.int r12)) M11)) ∧
  (x1 = 124 → E h mdX7_withNext [.ref x0, .int 124, .int 6, .int 0] M3 (fun r M13 => mE M3 M13 → ∃ r14 : Int32, r = some (.int r14) ∧ Q (some (.int r14)) M13)) ∧
  (¬ x1 = 33 ∧ ¬ x1 = 58 ∧ ¬ x1 = 60 ∧ ¬ x1 = 61 ∧ ¬ x1 = 62 ∧ ¬ x1 = 124 → Q (some (.int 0)) M3)) ∧
  (¬ (r4 < 0) → Q (some (.int (13 + r4))) M3))
set_option maxRecDepth 20000 in
set_option maxHeartbeats 2000000 in
theorem VX7_signKind_0 {h : Nat} {x0 : Nat} {x1 : Int32} {M : Mem} {Q : Option Value → Mem → Prop} (H : DX7_signKind_0 h x0 x1 M Q) : T (h + 1) mdX7_signKind 0 [(0, .ref x0), (1, .int x1)] [] M Q := by
  unfold DX7_signKind_0 at H
  refine xt_aload_n (j := 0) dX7_signKind_0 rfl rfl ?_
  refine xt_dup dX7_signKind_1 rfl ?_
  obtain ⟨ho1, H⟩ := H
  refine xt_getI dX7_signKind_2 (flX7_54 rfl) ft_9_3 ho1.1 ho1.2 ?_
  refine xt_iconst (v := 1) dX7_signKind_5 (by decide) ?_
  refine xt_iadd dX7_signKind_6 ?_
  obtain ⟨M2, eM2⟩ : ∃ z, z = wI M x0 3 ((mI M x0 3) + 1) := ⟨_, rfl⟩
  have H := H _ eM2
  refine xt_putI dX7_signKind_7 (flX7_54 rfl) ty_9_3 rfl ho1.1 ho1.2 ?_
  have ho1 : ok M2 x0 9 := by rw [eM2]; exact ho1
  rw [← eM2]
  refine xt_ldcG dX7_signKind_10 rfl ?_
  refine xt_iload_n (j := 1) dX7_signKind_12 rfl rfl ?_
  refine xt_i2c dX7_signKind_13 ?_
  refine xt_callX (j := 2) (h2 := h) (as := [.int (((x1 : Int32).toUInt32 % 65536).toInt32)]) (st := []) dX7_signKind_14 (mlX7_115 rfl) rfl (Or.inl ⟨by omega, rfl⟩) (by first | decide | (simp [Value.category]; done)) (Nat.le_refl _) H (fun r M3 HH hE => ?_)
  obtain ⟨r4, hr, H⟩ := HH hE
  subst hr
  have ho1 := ok_E ho1 hE
  show T _ _ _ _ [.int r4] _ _
  refine xt_istore_n (lv' := [(2, .int r4), (0, .ref x0), (1, .int x1)]) dX7_signKind_17 rfl (by decide) rfl ?_
  refine xt_iload_n (j := 0) dX7_signKind_18 rfl rfl ?_
  refine xt_if_lt (tgt := 27) dX7_signKind_19 (by decide) (fun hc => ?_) (fun hc => ?_)
  · have H := H.1 hc
    refine xt_iload_n (j := 2) dX7_signKind_27 rfl rfl ?_
    by_cases hx0 : x1 = 33
    · have H := H.1 hx0
      refine xt_lookup (tgt := 100) dX7_signKind_28 (by decide) (by rw [hx0] <;> decide) (by decide) ?_
      refine xt_aload_n (j := 1) dX7_signKind_100 rfl rfl ?_
      refine xt_bipush (v := 61) dX7_signKind_101 (by decide) ?_
      refine xt_bipush (v := 8) dX7_signKind_103 (by decide) ?_
      refine xt_iconst (v := 0) dX7_signKind_105 (by decide) ?_
      refine xt_callV (h2 := h) (as := [.int 61, .int 8, .int 0]) (st := []) dX7_signKind_106 (mlX7_118 rfl) rfl ho1.1 ⟨by rw [ho1.2]; rfl, by rw [ho1.2]; decide⟩ (by first | decide | (simp [Value.category]; done)) (Nat.le_refl _) H (fun r M5 HH hE => ?_)
      obtain ⟨r6, hr, H⟩ := HH hE
      subst hr
      have ho1 := ok_E ho1 hE
      show T _ _ _ _ [.int r6] _ _
      exact xt_ireturn dX7_signKind_109 rfl H
    by_cases hx1 : x1 = 58
    · have H := H.2.1 hx1
      refine xt_lookup (tgt := 88) dX7_signKind_28 (by decide) (by rw [hx1] <;> decide) (by decide) ?_
      refine xt_aload_n (j := 1) dX7_signKind_88 rfl rfl ?_
      refine xt_bipush (v := 61) dX7_signKind_89 (by decide) ?_
      refine xt_iconst (v := 5) dX7_signKind_91 (by decide) ?_
      refine xt_iconst (v := 4) dX7_signKind_92 (by decide) ?_
      refine xt_callV (h2 := h) (as := [.int 61, .int 5, .int 4]) (st := []) dX7_signKind_93 (mlX7_118 rfl) rfl ho1.1 ⟨by rw [ho1.2]; rfl, by rw [ho1.2]; decide⟩ (by first | decide | (simp [Value.category]; done)) (Nat.le_refl _) H (fun r M7 HH hE => ?_)
      obtain ⟨r8, hr, H⟩ := HH hE
      subst hr
      have ho1 := ok_E ho1 hE
      show T _ _ _ _ [.int r8] _ _
      exact xt_ireturn dX7_signKind_96 rfl H
    by_cases hx2 : x1 = 60
    · have H := H.2.2.1 hx2
      refine xt_lookup (tgt := 110) dX7_signKind_28 (by decide) (by rw [hx2] <;> decide) (by decide) ?_
      refine xt_aload_n (j := 1) dX7_signKind_110 rfl rfl ?_
      refine xt_bipush (v := 61) dX7_signKind_111 (by decide) ?_
      refine xt_bipush (v := 10) dX7_signKind_113 (by decide) ?_
      refine xt_bipush (v := 9) dX7_signKind_115 (by decide) ?_
      refine xt_callV (h2 := h) (as := [.int 61, .int 10, .int 9]) (st := []) dX7_signKind_117 (mlX7_118 rfl) rfl ho1.1 ⟨by rw [ho1.2]; rfl, by rw [ho1.2]; decide⟩ (by first | decide | (simp [Value.category]; done)) (Nat.le_refl _) H (fun r M9 HH hE => ?_)
      obtain ⟨r10, hr, H⟩ := HH hE
      subst hr
      have ho1 := ok_E ho1 hE
      show T _ _ _ _ [.int r10] _ _
      exact xt_ireturn dX7_signKind_120 rfl H
    by_cases hx3 : x1 = 61
    · have H := H.2.2.2.1 hx3
      refine xt_lookup (tgt := 97) dX7_signKind_28 (by decide) (by rw [hx3] <;> decide) (by decide) ?_
      refine xt_bipush (v := 7) dX7_signKind_97 (by decide) ?_
      exact xt_ireturn dX7_signKind_99 rfl H
    by_cases hx4 : x1 = 62
    · have H := H.2.2.2.2.1 hx4
      refine xt_lookup (tgt := 121) dX7_signKind_28 (by decide) (by rw [hx4] <;> decide) (by decide) ?_
      refine xt_aload_n (j := 1) dX7_signKind_121 rfl rfl ?_
      refine xt_bipush (v := 61) dX7_signKind_122 (by decide) ?_
      refine xt_bipush (v := 12) dX7_signKind_124 (by decide) ?_
      refine xt_bipush (v := 11) dX7_signKind_126 (by decide) ?_
      refine xt_callV (h2 := h) (as := [.int 61, .int 12, .int 11]) (st := []) dX7_signKind_128 (mlX7_118 rfl) rfl ho1.1 ⟨by rw [ho1.2]; rfl, by rw [ho1.2]; decide⟩ (by first | decide | (simp [Value.category]; done)) (Nat.le_refl _) H (fun r M11 HH hE => ?_)
      obtain ⟨r12, hr, H⟩ := HH hE
      subst hr
      have ho1 := ok_E ho1 hE
      show T _ _ _ _ [.int r12] _ _
      exact xt_ireturn dX7_signKind_131 rfl H
    by_cases hx5 : x1 = 124
    · have H := H.2.2.2.2.2.1 hx5
      refine xt_lookup (tgt := 132) dX7_signKind_28 (by decide) (by rw [hx5] <;> decide) (by decide) ?_
      refine xt_aload_n (j := 1) dX7_signKind_132 rfl rfl ?_
      refine xt_bipush (v := 124) dX7_signKind_133 (by decide) ?_
      refine xt_bipush (v := 6) dX7_signKind_135 (by decide) ?_
      refine xt_iconst (v := 0) dX7_signKind_137 (by decide) ?_
      refine xt_callV (h2 := h) (as := [.int 124, .int 6, .int 0]) (st := []) dX7_signKind_138 (mlX7_118 rfl) rfl ho1.1 ⟨by rw [ho1.2]; rfl, by rw [ho1.2]; decide⟩ (by first | decide | (simp [Value.category]; done)) (Nat.le_refl _) H (fun r M13 HH hE => ?_)
      obtain ⟨r14, hr, H⟩ := HH hE
      subst hr
      have ho1 := ok_E ho1 hE
      show T _ _ _ _ [.int r14] _ _
      exact xt_ireturn dX7_signKind_141 rfl H
    have H := H.2.2.2.2.2.2 ⟨hx0, hx1, hx2, hx3, hx4, hx5⟩
    have hn0 : ¬ (33 : Int) = (x1 : Int32).toInt := fun q => hx0 (i32_ofInt q.symm)
    have hn1 : ¬ (58 : Int) = (x1 : Int32).toInt := fun q => hx1 (i32_ofInt q.symm)
    have hn2 : ¬ (60 : Int) = (x1 : Int32).toInt := fun q => hx2 (i32_ofInt q.symm)
    have hn3 : ¬ (61 : Int) = (x1 : Int32).toInt := fun q => hx3 (i32_ofInt q.symm)
    have hn4 : ¬ (62 : Int) = (x1 : Int32).toInt := fun q => hx4 (i32_ofInt q.symm)
    have hn5 : ¬ (124 : Int) = (x1 : Int32).toInt := fun q => hx5 (i32_ofInt q.symm)
    refine xt_lookup (off := 114) (tgt := 142) dX7_signKind_28 (by decide) (by simp [Op.lookupswitch.offset, hn0, hn1, hn2, hn3, hn4, hn5]) (by decide) ?_
    refine xt_iconst (v := 0) dX7_signKind_142 (by decide) ?_
    exact xt_ireturn dX7_signKind_143 rfl H
  · have H := H.2 hc
    refine xt_bipush (v := 13) dX7_signKind_22 (by decide) ?_
    refine xt_iload_n (j := 0) dX7_signKind_24 rfl rfl ?_
    refine xt_iadd dX7_signKind_25 ?_
    exact xt_ireturn dX7_signKind_26 rfl H
theorem KX7_signKind {h : Nat} {x0 : Nat} {x1 : Int32} {M : Mem} {Q : Option Value → Mem → Prop} (H : DX7_signKind_0 h x0 x1 M Q) : E (h + 1) mdX7_signKind [.ref x0, .int x1] M Q := E.of (by decide) (Nat.le_of_ble_eq_true rfl) (fun _ _ _ => trivial) (VX7_signKind_0 H)
def DX11_everying_0 (h : Nat) (x0 : Nat) (x1 : Int32) (x2 : Int32) (M : Mem) (Q : Option Value → Mem → Prop) : Prop :=
  ok M x0 13 ∧ ∃ b2 : Nat, mR M x0 41 = some b2 ∧ ok M b2 22 ∧ vp_in x1 (mL M b2) ∧ E h mdX11_awaiting [.ref x0, .int x1, .int (mAI M b2 (x1 : Int32).toNatClampNeg)] M (fun r M4 => mE M M4 → ∃ r5 : Int32, r = some (.int r5) ∧ E h mdX11_halting [.ref x0] M4 (fun r M6 => mE M4 M6 → ∃ r7 : Int32, r = some (.int r7) ∧ E h mdX11_over [.ref x0, .int 6, .int (-1), .int x2, .int r7] M6 (fun r M8 => mE M6 M8 → ∃ r9 : Int32, r = some (.int r9) ∧ E h mdX11_aborting [.ref x0, .int x1, .int r9, .int 0, .int 0] M8 (fun r M10 => mE M8 M10 → ∃ r11 : Int32, r = some (.int r11) ∧ E h mdX11_over [.ref x0, .int 7, .int (-1), .int r11, .int (-1)] M10 (fun r M12 => mE M10 M12 → ∃ r13 : Int32, r = some (.int r13) ∧ E h mdX11_over [.ref x0, .int 6, .int (-1), .int r5, .int r13] M12 (fun r M14 => mE M12 M14 → ∃ r15 : Int32, r = some (.int r15) ∧ Q (some (.int r15)) M14))))))
set_option maxRecDepth 20000 in
set_option maxHeartbeats 2000000 in
theorem VX11_everying_0 {h : Nat} {x0 : Nat} {x1 : Int32} {x2 : Int32} {M : Mem} {Q : Option Value → Mem → Prop} (H : DX11_everying_0 h x0 x1 x2 M Q) : T (h + 1) mdX11_everying 0 [(0, .ref x0), (1, .int x1), (2, .int x2)] [] M Q := by
  unfold DX11_everying_0 at H
  refine xt_aload_n (j := 0) dX11_everying_0 rfl rfl ?_
  refine xt_iload_n (j := 1) dX11_everying_1 rfl rfl ?_
  refine xt_aload_n (j := 0) dX11_everying_2 rfl rfl ?_
  obtain ⟨ho1, H⟩ := H
  obtain ⟨b2, hb, H⟩ := H
  refine xt_getR dX11_everying_3 (flX11_105 rfl) ft_13_41 ho1.1 ho1.2 hb ?_
  refine xt_iload_n (j := 1) dX11_everying_6 rfl rfl ?_
  obtain ⟨ho3, H⟩ := H
  obtain ⟨hi, H⟩ := H
  refine xt_zald dX11_everying_7 ho3.1 ho3.2 hi ?_
  refine xt_callV (h2 := h) (as := [.int x1, .int (mAI M b2 (x1 : Int32).toNatClampNeg)]) (st := []) dX11_everying_8 (mlX11_666 rfl) rfl ho1.1 ⟨by rw [ho1.2]; rfl, by rw [ho1.2]; decide⟩ (by first | decide | (simp [Value.category]; done)) (Nat.le_refl _) H (fun r M4 HH hE => ?_)
  obtain ⟨r5, hr, H⟩ := HH hE
  subst hr
  have ho1 := ok_E ho1 hE
  show T _ _ _ _ [.int r5] _ _
  refine xt_istore_n (lv' := [(3, .int r5), (0, .ref x0), (1, .int x1), (2, .int x2)]) dX11_everying_11 rfl (by decide) rfl ?_
  refine xt_aload_n (j := 1) dX11_everying_12 rfl rfl ?_
  refine xt_bipush (v := 7) dX11_everying_13 (by decide) ?_
  refine xt_iconst (v := -1) dX11_everying_15 (by decide) ?_
  refine xt_aload_n (j := 1) dX11_everying_16 rfl rfl ?_
  refine xt_iload_n (j := 2) dX11_everying_17 rfl rfl ?_
  refine xt_aload_n (j := 1) dX11_everying_18 rfl rfl ?_
  refine xt_bipush (v := 6) dX11_everying_19 (by decide) ?_
  refine xt_iconst (v := -1) dX11_everying_21 (by decide) ?_
  refine xt_iload_n (j := 3) dX11_everying_22 rfl rfl ?_
  refine xt_aload_n (j := 1) dX11_everying_23 rfl rfl ?_
  refine xt_callVw (h2 := h) (as := []) (st := [.int x2, .int (-1), .int 6, .ref x0, .int x1, .ref x0, .int (-1), .int 7, .ref x0]) dX11_everying_24 (mlX11_669 rfl) rfl ho1.1 ⟨by rw [ho1.2]; rfl, by rw [ho1.2]; decide⟩ (by first | decide | (simp [Value.category]; done)) (Nat.le_refl _) H (fun r M6 HH hE => ?_)
  obtain ⟨r7, hr, H⟩ := HH hE
  subst hr
  have ho1 := ok_E ho1 hE
  show T _ _ _ _ [.int r7, .int x2, .int (-1), .int 6, .ref x0, .int x1, .ref x0, .int (-1), .int 7, .ref x0] _ _
  refine xt_callV (h2 := h) (as := [.int 6, .int (-1), .int x2, .int r7]) (st := [.int x1, .ref x0, .int (-1), .int 7, .ref x0]) dX11_everying_27 (mlX11_658 rfl) rfl ho1.1 ⟨by rw [ho1.2]; rfl, by rw [ho1.2]; decide⟩ (by first | decide | (simp [Value.category]; done)) (Nat.le_refl _) H (fun r M8 HH hE => ?_)
  obtain ⟨r9, hr, H⟩ := HH hE
  subst hr
  have ho1 := ok_E ho1 hE
  show T _ _ _ _ [.int r9, .int x1, .ref x0, .int (-1), .int 7, .ref x0] _ _
  refine xt_iconst (v := 0) dX11_everying_30 (by decide) ?_
  refine xt_iconst (v := 0) dX11_everying_31 (by decide) ?_
  refine xt_callV (h2 := h) (as := [.int x1, .int r9, .int 0, .int 0]) (st := [.int (-1), .int 7, .ref x0]) dX11_everying_32 (mlX11_672 rfl) rfl ho1.1 ⟨by rw [ho1.2]; rfl, by rw [ho1.2]; decide⟩ (by first | decide | (simp [Value.category]; done)) (Nat.le_refl _) H (fun r M10 HH hE => ?_)
  obtain ⟨r11, hr, H⟩ := HH hE
  subst hr
  have ho1 := ok_E ho1 hE
  show T _ _ _ _ [.int r11, .int (-1), .int 7, .ref x0] _ _
  refine xt_iconst (v := -1) dX11_everying_35 (by decide) ?_
  refine xt_callV (h2 := h) (as := [.int 7, .int (-1), .int r11, .int (-1)]) (st := []) dX11_everying_36 (mlX11_658 rfl) rfl ho1.1 ⟨by rw [ho1.2]; rfl, by rw [ho1.2]; decide⟩ (by first | decide | (simp [Value.category]; done)) (Nat.le_refl _) H (fun r M12 HH hE => ?_)
  obtain ⟨r13, hr, H⟩ := HH hE
  subst hr
  have ho1 := ok_E ho1 hE
  show T _ _ _ _ [.int r13] _ _
  refine xt_istore (lv' := [(4, .int r13), (3, .int r5), (0, .ref x0), (1, .int x1), (2, .int x2)]) dX11_everying_39 (by decide) rfl ?_
  refine xt_aload_n (j := 2) dX11_everying_41 rfl rfl ?_
  refine xt_bipush (v := 6) dX11_everying_42 (by decide) ?_
  refine xt_iconst (v := -1) dX11_everying_44 (by decide) ?_
  refine xt_iload_n (j := 1) dX11_everying_45 rfl rfl ?_
  refine xt_iload (j := 0) dX11_everying_46 rfl ?_
  refine xt_callV (h2 := h) (as := [.int 6, .int (-1), .int r5, .int r13]) (st := []) dX11_everying_48 (mlX11_658 rfl) rfl ho1.1 ⟨by rw [ho1.2]; rfl, by rw [ho1.2]; decide⟩ (by first | decide | (simp [Value.category]; done)) (Nat.le_refl _) H (fun r M14 HH hE => ?_)
  obtain ⟨r15, hr, H⟩ := HH hE
  subst hr
  have ho1 := ok_E ho1 hE
  show T _ _ _ _ [.int r15] _ _
  exact xt_ireturn dX11_everying_51 rfl H
theorem KX11_everying {h : Nat} {x0 : Nat} {x1 : Int32} {x2 : Int32} {M : Mem} {Q : Option Value → Mem → Prop} (H : DX11_everying_0 h x0 x1 x2 M Q) : E (h + 1) mdX11_everying [.ref x0, .int x1, .int x2] M Q := E.of (by decide) (Nat.le_of_ble_eq_true rfl) (fun _ _ _ => trivial) (VX11_everying_0 H)
