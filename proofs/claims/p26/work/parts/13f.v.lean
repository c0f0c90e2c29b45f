def DX11_operator_121 (h : Nat) (s0 : Int32) (M : Mem) (Q : Option Value → Mem → Prop) : Prop :=
  Q (some (.int s0)) M
set_option maxRecDepth 20000 in
set_option maxHeartbeats 2000000 in
theorem VX11_operator_121 {h : Nat} {s0 : Int32} {M : Mem} {Q : Option Value → Mem → Prop} (H : DX11_operator_121 h s0 M Q) : T (h + 1) mdX11_operator 121 [] [.int s0] M Q := by
  unfold DX11_operator_121 at H
  exact xt_ireturn dX11_operator_121 rfl H
def DX11_operator_0 (h : Nat) (x0 : Nat) (M : Mem) (Q : Option Value → Mem → Prop) : Prop :=
  ok M x0 13 ∧ ∃ b2 : Nat, mR M x0 2 = some b2 ∧ ok M b2 21 ∧ vp_in (mI M x0 5) (mL M b2) ∧ ((mAI M b2 (mI M x0 5 : Int32).toNatClampNeg) = 3 → ∃ b4 : Nat, mR M x0 4 = some b4 ∧ ok M b4 23 ∧ vp_in (mI M x0 5) (mL M b4) ∧ (¬ (lg_cmp (mAJ M b4 (mI M x0 5 : Int32).toNatClampNeg) 43) = 0 → ∃ b6 : Nat, mR M x0 4 = some b6 ∧ ok M b6 23 ∧ vp_in (mI M x0 5) (mL M b6) ∧ (¬ (lg_cmp (mAJ M b6 (mI M x0 5 : Int32).toNatClampNeg) 45) = 0 → ∃ b8 : Nat, mR M x0 4 = some b8 ∧ ok M b8 23 ∧ vp_in (mI M x0 5) (mL M b8) ∧ (¬ (lg_cmp (mAJ M b8 (mI M x0 5 : Int32).toNatClampNeg) 42) = 0 → ∃ b10 : Nat, mR M x0 4 = some b10 ∧ ok M b10 23 ∧ vp_in (mI M x0 5) (mL M b10) ∧ (¬ (lg_cmp (mAJ M b10 (mI M x0 5 : Int32).toNatClampNeg) 47) = 0 → ∃ b12 : Nat, mR M x0 4 = some b12 ∧ ok M b12 23 ∧ vp_in (mI M x0 5) (mL M b12) ∧ (¬ (lg_cmp (mAJ M b12 (mI M x0 5 : Int32).toNatClampNeg) 37) = 0 → DX11_operator_121 h (-1) M Q) ∧
  ((lg_cmp (mAJ M b12 (mI M x0 5 : Int32).toNatClampNeg) 37) = 0 → DX11_operator_121 h 6 M Q)) ∧
  ((lg_cmp (mAJ M b10 (mI M x0 5 : Int32).toNatClampNeg) 47) = 0 → DX11_operator_121 h 5 M Q)) ∧
  ((lg_cmp (mAJ M b8 (mI M x0 5 : Int32).toNatClampNeg) 42) = 0 → DX11_operator_121 h 4 M Q)) ∧
  ((lg_cmp (mAJ M b6 (mI M x0 5 : Int32).toNatClampNeg) 45) = 0 → DX11_operator_121 h 8 M Q)) ∧
  ((lg_cmp (mAJ M b4 (mI M x0 5 : Int32).toNatClampNeg) 43) = 0 → DX11_operator_121 h 7 M Q)) ∧
  (¬ ((mAI M b2 (mI M x0 5 : Int32).toNatClampNeg) = 3) → DX11_operator_121 h (-1) M Q)
set_option maxRecDepth 20000 in
set_option maxHeartbeats 2000000 in
theorem VX11_operator_0 {h : Nat} {x0 : Nat} {M : Mem} {Q : Option Value → Mem → Prop} (H : DX11_operator_0 h x0 M Q) : T (h + 1) mdX11_operator 0 [(0, .ref x0)] [] M Q := by
  unfold DX11_operator_0 at H
  refine xt_aload_n (j := 0) dX11_operator_0 rfl rfl ?_
  obtain ⟨ho1, H⟩ := H
  obtain ⟨b2, hb, H⟩ := H
  refine xt_getR dX11_operator_1 (flX11_13 rfl) ft_13_2 ho1.1 ho1.2 hb ?_
  refine xt_aload_n (j := 0) dX11_operator_4 rfl rfl ?_
  refine xt_getI dX11_operator_5 (flX11_366 rfl) ft_13_5 ho1.1 ho1.2 ?_
  obtain ⟨ho3, H⟩ := H
  obtain ⟨hi, H⟩ := H
  refine xt_iald dX11_operator_8 ho3.1 ho3.2 hi ?_
  refine xt_iconst (v := 3) dX11_operator_9 (by decide) ?_
  refine xt_icmp_eq (tgt := 17) dX11_operator_10 (by decide) (fun hc => ?_) (fun hc => ?_)
  · have H := H.1 hc
    refine xt_aload_n (j := 0) dX11_operator_17 rfl rfl ?_
    obtain ⟨b4, hb, H⟩ := H
    refine xt_getR dX11_operator_18 (flX11_19 rfl) ft_13_4 ho1.1 ho1.2 hb ?_
    refine xt_aload_n (j := 0) dX11_operator_21 rfl rfl ?_
    refine xt_getI dX11_operator_22 (flX11_366 rfl) ft_13_5 ho1.1 ho1.2 ?_
    obtain ⟨ho5, H⟩ := H
    obtain ⟨hi, H⟩ := H
    refine xt_lald dX11_operator_25 ho5.1 ho5.2 hi ?_
    refine xt_ldc2 (v := 43) dX11_operator_26 (ctX11_535 rfl) ?_
    refine xt_lcmp dX11_operator_29 ?_
    refine xt_if_ne (tgt := 38) dX11_operator_30 (by decide) (fun hc => ?_) (fun hc => ?_)
    · have H := H.1 hc
      refine xt_aload_n (j := 0) dX11_operator_38 rfl rfl ?_
      obtain ⟨b6, hb, H⟩ := H
      refine xt_getR dX11_operator_39 (flX11_19 rfl) ft_13_4 ho1.1 ho1.2 hb ?_
      refine xt_aload_n (j := 0) dX11_operator_42 rfl rfl ?_
      refine xt_getI dX11_operator_43 (flX11_366 rfl) ft_13_5 ho1.1 ho1.2 ?_
      obtain ⟨ho7, H⟩ := H
      obtain ⟨hi, H⟩ := H
      refine xt_lald dX11_operator_46 ho7.1 ho7.2 hi ?_
      refine xt_ldc2 (v := 45) dX11_operator_47 (ctX11_482 rfl) ?_
      refine xt_lcmp dX11_operator_50 ?_
      refine xt_if_ne (tgt := 59) dX11_operator_51 (by decide) (fun hc => ?_) (fun hc => ?_)
      · have H := H.1 hc
        refine xt_aload_n (j := 0) dX11_operator_59 rfl rfl ?_
        obtain ⟨b8, hb, H⟩ := H
        refine xt_getR dX11_operator_60 (flX11_19 rfl) ft_13_4 ho1.1 ho1.2 hb ?_
        refine xt_aload_n (j := 0) dX11_operator_63 rfl rfl ?_
        refine xt_getI dX11_operator_64 (flX11_366 rfl) ft_13_5 ho1.1 ho1.2 ?_
        obtain ⟨ho9, H⟩ := H
        obtain ⟨hi, H⟩ := H
        refine xt_lald dX11_operator_67 ho9.1 ho9.2 hi ?_
        refine xt_ldc2 (v := 42) dX11_operator_68 (ctX11_537 rfl) ?_
        refine xt_lcmp dX11_operator_71 ?_
        refine xt_if_ne (tgt := 79) dX11_operator_72 (by decide) (fun hc => ?_) (fun hc => ?_)
        · have H := H.1 hc
          refine xt_aload_n (j := 0) dX11_operator_79 rfl rfl ?_
          obtain ⟨b10, hb, H⟩ := H
          refine xt_getR dX11_operator_80 (flX11_19 rfl) ft_13_4 ho1.1 ho1.2 hb ?_
          refine xt_aload_n (j := 0) dX11_operator_83 rfl rfl ?_
          refine xt_getI dX11_operator_84 (flX11_366 rfl) ft_13_5 ho1.1 ho1.2 ?_
          obtain ⟨ho11, H⟩ := H
          obtain ⟨hi, H⟩ := H
          refine xt_lald dX11_operator_87 ho11.1 ho11.2 hi ?_
          refine xt_ldc2 (v := 47) dX11_operator_88 (ctX11_539 rfl) ?_
          refine xt_lcmp dX11_operator_91 ?_
          refine xt_if_ne (tgt := 99) dX11_operator_92 (by decide) (fun hc => ?_) (fun hc => ?_)
          · have H := H.1 hc
            refine xt_aload_n (j := 0) dX11_operator_99 rfl rfl ?_
            obtain ⟨b12, hb, H⟩ := H
            refine xt_getR dX11_operator_100 (flX11_19 rfl) ft_13_4 ho1.1 ho1.2 hb ?_
            refine xt_aload_n (j := 0) dX11_operator_103 rfl rfl ?_
            refine xt_getI dX11_operator_104 (flX11_366 rfl) ft_13_5 ho1.1 ho1.2 ?_
            obtain ⟨ho13, H⟩ := H
            obtain ⟨hi, H⟩ := H
            refine xt_lald dX11_operator_107 ho13.1 ho13.2 hi ?_
            refine xt_ldc2 (v := 37) dX11_operator_108 (ctX11_541 rfl) ?_
            refine xt_lcmp dX11_operator_111 ?_
            refine xt_if_ne (tgt := 120) dX11_operator_112 (by decide) (fun hc => ?_) (fun hc => ?_)
            · have H := H.1 hc
              refine xt_iconst (v := -1) dX11_operator_120 (by decide) ?_
              exact xt_sub [] rfl (VX11_operator_121 H)
            · have H := H.2 hc
              refine xt_bipush (v := 6) dX11_operator_115 (by decide) ?_
              refine xt_goto (tgt := 121) dX11_operator_117 (by decide) ?_
              exact xt_sub [] rfl (VX11_operator_121 H)
          · have H := H.2 hc
            refine xt_iconst (v := 5) dX11_operator_95 (by decide) ?_
            refine xt_goto (tgt := 121) dX11_operator_96 (by decide) ?_
            exact xt_sub [] rfl (VX11_operator_121 H)
        · have H := H.2 hc
          refine xt_iconst (v := 4) dX11_operator_75 (by decide) ?_
          refine xt_goto (tgt := 121) dX11_operator_76 (by decide) ?_
          exact xt_sub [] rfl (VX11_operator_121 H)
      · have H := H.2 hc
        refine xt_bipush (v := 8) dX11_operator_54 (by decide) ?_
        refine xt_goto (tgt := 121) dX11_operator_56 (by decide) ?_
        exact xt_sub [] rfl (VX11_operator_121 H)
    · have H := H.2 hc
      refine xt_bipush (v := 7) dX11_operator_33 (by decide) ?_
      refine xt_goto (tgt := 121) dX11_operator_35 (by decide) ?_
      exact xt_sub [] rfl (VX11_operator_121 H)
  · have H := H.2 hc
    refine xt_iconst (v := -1) dX11_operator_13 (by decide) ?_
    refine xt_goto (tgt := 121) dX11_operator_14 (by decide) ?_
    exact xt_sub [] rfl (VX11_operator_121 H)
theorem KX11_operator {h : Nat} {x0 : Nat} {M : Mem} {Q : Option Value → Mem → Prop} (H : DX11_operator_0 h x0 M Q) : E (h + 1) mdX11_operator [.ref x0] M Q := E.of (by decide) (Nat.le_of_ble_eq_true rfl) (fun _ _ _ => trivial) (VX11_operator_0 H)
def DX11_readSum_292 (h : Nat) (x0 : Nat) (M : Mem) (Q : Option Value → Mem → Prop) : Prop :=
  ok M x0 13 ∧ ((mI M x0 6) ≤ 0 → E h mdX11_joinSums [.ref x0, .int 8] M (fun r M2 => mE M M2 → r = none ∧ ∃ b3 : Nat, mR M2 x0 30 = some b3 ∧ ok M2 b3 21 ∧ vp_in 0 (mL M2 b3) ∧ Q (some (.int (mAI M2 b3 (0 : Int32).toNatClampNeg))) M2)) ∧
  (¬ ((mI M x0 6) ≤ 0) → Q (some (.int 0)) M)
set_option maxRecDepth 20000 in
set_option maxHeartbeats 2000000 in
theorem VX11_readSum_292 {h : Nat} {x0 : Nat} {M : Mem} {Q : Option Value → Mem → Prop} (H : DX11_readSum_292 h x0 M Q) : T (h + 1) mdX11_readSum 292 [(0, .ref x0)] [] M Q := by
  unfold DX11_readSum_292 at H
  refine xt_aload_n (j := 0) dX11_readSum_292 rfl rfl ?_
  obtain ⟨ho1, H⟩ := H
  refine xt_getI dX11_readSum_293 (flX11_360 rfl) ft_13_6 ho1.1 ho1.2 ?_
  refine xt_if_le (tgt := 301) dX11_readSum_296 (by decide) (fun hc => ?_) (fun hc => ?_)
  · have H := H.1 hc
    refine xt_aload_n (j := 0) dX11_readSum_301 rfl rfl ?_
    refine xt_bipush (v := 8) dX11_readSum_302 (by decide) ?_
    refine xt_callV (h2 := h) (as := [.int 8]) (st := []) dX11_readSum_304 (mlX11_549 rfl) rfl ho1.1 ⟨by rw [ho1.2]; rfl, by rw [ho1.2]; decide⟩ (by first | decide | (simp [Value.category]; done)) (Nat.le_refl _) H (fun r M2 HH hE => ?_)
    obtain ⟨hr, H⟩ := HH hE
    subst hr
    have ho1 := ok_E ho1 hE
    show T _ _ _ _ [] _ _
    refine xt_aload_n (j := 0) dX11_readSum_307 rfl rfl ?_
    obtain ⟨b3, hb, H⟩ := H
    refine xt_getR dX11_readSum_308 (flX11_81 rfl) ft_13_30 ho1.1 ho1.2 hb ?_
    refine xt_iconst (v := 0) dX11_readSum_311 (by decide) ?_
    obtain ⟨ho4, H⟩ := H
    obtain ⟨hi, H⟩ := H
    refine xt_iald dX11_readSum_312 ho4.1 ho4.2 hi ?_
    exact xt_ireturn dX11_readSum_313 rfl H
  · have H := H.2 hc
    refine xt_iconst (v := 0) dX11_readSum_299 (by decide) ?_
    exact xt_ireturn dX11_readSum_300 rfl H
def DX11_readSum_264 (h : Nat) (x0 : Nat) (M : Mem) (Q : Option Value → Mem → Prop) : Prop :=
  ok M x0 13 ∧ (¬ (mI M x0 6) = 0 → DX11_readSum_292 h x0 M Q) ∧
  ((mI M x0 6) = 0 → ((mI M x0 32) ≤ 0 → DX11_readSum_292 h x0 M Q) ∧
  (¬ ((mI M x0 32) ≤ 0) → ∃ b2 : Nat, mR M x0 3 = some b2 ∧ ok M b2 21 ∧ vp_in (mI M x0 5) (mL M b2) ∧ E h mdX11_fails [.ref x0, .int 2, .int (mAI M b2 (mI M x0 5 : Int32).toNatClampNeg)] M (fun r M4 => mE M M4 → r = none ∧ DX11_readSum_292 h x0 M4 Q)))
set_option maxRecDepth 20000 in
set_option maxHeartbeats 2000000 in
theorem VX11_readSum_264 {h : Nat} {x0 : Nat} {M : Mem} {Q : Option Value → Mem → Prop} (H : DX11_readSum_264 h x0 M Q) : T (h + 1) mdX11_readSum 264 [(0, .ref x0)] [] M Q := by
  unfold DX11_readSum_264 at H
  refine xt_aload_n (j := 0) dX11_readSum_264 rfl rfl ?_
  obtain ⟨ho1, H⟩ := H
  refine xt_getI dX11_readSum_265 (flX11_360 rfl) ft_13_6 ho1.1 ho1.2 ?_
  refine xt_if_ne (tgt := 292) dX11_readSum_268 (by decide) (fun hc => ?_) (fun hc => ?_)
  · have H := H.1 hc
    exact xt_sub [0] rfl (VX11_readSum_292 H)
  · have H := H.2 hc
    refine xt_aload_n (j := 0) dX11_readSum_271 rfl rfl ?_
    refine xt_getI dX11_readSum_272 (flX11_492 rfl) ft_13_32 ho1.1 ho1.2 ?_
    refine xt_if_le (tgt := 292) dX11_readSum_275 (by decide) (fun hc => ?_) (fun hc => ?_)
    · have H := H.1 hc
      exact xt_sub [0] rfl (VX11_readSum_292 H)
    · have H := H.2 hc
      refine xt_aload_n (j := 0) dX11_readSum_278 rfl rfl ?_
      refine xt_iconst (v := 2) dX11_readSum_279 (by decide) ?_
      refine xt_aload_n (j := 0) dX11_readSum_280 rfl rfl ?_
      obtain ⟨b2, hb, H⟩ := H
      refine xt_getR dX11_readSum_281 (flX11_16 rfl) ft_13_3 ho1.1 ho1.2 hb ?_
      refine xt_aload_n (j := 0) dX11_readSum_284 rfl rfl ?_
      refine xt_getI dX11_readSum_285 (flX11_366 rfl) ft_13_5 ho1.1 ho1.2 ?_
      obtain ⟨ho3, H⟩ := H
      obtain ⟨hi, H⟩ := H
      refine xt_iald dX11_readSum_288 ho3.1 ho3.2 hi ?_
      refine xt_callV (h2 := h) (as := [.int 2, .int (mAI M b2 (mI M x0 5 : Int32).toNatClampNeg)]) (st := []) dX11_readSum_289 (mlX11_369 rfl) rfl ho1.1 ⟨by rw [ho1.2]; rfl, by rw [ho1.2]; decide⟩ (by first | decide | (simp [Value.category]; done)) (Nat.le_refl _) H (fun r M4 HH hE => ?_)
      obtain ⟨hr, H⟩ := HH hE
      subst hr
      have ho1 := ok_E ho1 hE
      show T _ _ _ _ [] _ _
      exact xt_sub [0] rfl (VX11_readSum_292 H)
def DX11_readSum_259 (h : Nat) (x0 : Nat) (x1 : Int32) (M : Mem) (Q : Option Value → Mem → Prop) : Prop :=
  T (h + 1) mdX11_readSum 19 [(0, .ref x0), (1, .int x1), (2, .int 0)] [] M Q
set_option maxRecDepth 20000 in
set_option maxHeartbeats 2000000 in
theorem VX11_readSum_259 {h : Nat} {x0 : Nat} {x1 : Int32} {M : Mem} {Q : Option Value → Mem → Prop} (H : DX11_readSum_259 h x0 x1 M Q) : T (h + 1) mdX11_readSum 259 [(0, .ref x0), (1, .int x1)] [] M Q := by
  unfold DX11_readSum_259 at H
  refine xt_iconst (v := 0) dX11_readSum_259 (by decide) ?_
  refine xt_istore_n (lv' := [(2, .int 0), (0, .ref x0), (1, .int x1)]) dX11_readSum_260 rfl (by decide) rfl ?_
  refine xt_goto (tgt := 19) dX11_readSum_261 (by decide) ?_
  exact xt_sub (lv' := [(0, .ref x0), (1, .int x1), (2, .int 0)]) [1, 2, 0] rfl H
def DX11_readSum_199 (h : Nat) (x0 : Nat) (x1 : Int32) (x2 : Int32) (M : Mem) (Q : Option Value → Mem → Prop) : Prop :=
  ok M x0 13 ∧ ((mI M x0 29) ≤ 0 → T (h + 1) mdX11_readSum 19 [(0, .ref x0), (1, .int x1), (2, .int x2)] [] M Q) ∧
  (¬ ((mI M x0 29) ≤ 0) → ∃ b2 : Nat, mR M x0 28 = some b2 ∧ ok M b2 21 ∧ vp_in ((mI M x0 29) - 1) (mL M b2) ∧ (¬ (mAI M b2 ((mI M x0 29) - 1 : Int32).toNatClampNeg) = 3 → T (h + 1) mdX11_readSum 19 [(0, .ref x0), (1, .int x1), (2, .int x2)] [] M Q) ∧
  ((mAI M b2 ((mI M x0 29) - 1 : Int32).toNatClampNeg) = 3 → E h mdX11_popped [.ref x0] M (fun r M4 => mE M M4 → ∃ r5 : Int32, r = some (.int r5) ∧ E h mdX11_sum [.ref x0, .int 3, .long ((r5 : Int32).toInt64), .int 0] M4 (fun r M6 => mE M4 M6 → ∃ r7 : Int32, r = some (.int r7) ∧ E h mdX11_pushed [.ref x0, .int r7] M6 (fun r M8 => mE M6 M8 → r = none ∧ ∀ M9 : Mem, M9 = wI M8 x0 29 ((mI M8 x0 29) - 1) →
  ∀ M10 : Mem, M10 = wI M9 x0 33 ((mI M9 x0 33) - 1) →
  T (h + 1) mdX11_readSum 199 [(0, .ref x0), (1, .int x1), (2, .int x2)] [] M10 Q)))))
set_option maxRecDepth 20000 in
set_option maxHeartbeats 2000000 in
theorem VX11_readSum_199 {h : Nat} {x0 : Nat} {x1 : Int32} {x2 : Int32} {M : Mem} {Q : Option Value → Mem → Prop} (H : DX11_readSum_199 h x0 x1 x2 M Q) : T (h + 1) mdX11_readSum 199 [(0, .ref x0), (1, .int x1), (2, .int x2)] [] M Q := by
  unfold DX11_readSum_199 at H
  refine xt_aload_n (j := 0) dX11_readSum_199 rfl rfl ?_
  obtain ⟨ho1, H⟩ := H
  refine xt_getI dX11_readSum_200 (flX11_489 rfl) ft_13_29 ho1.1 ho1.2 ?_
  refine xt_if_le (tgt := 19) dX11_readSum_203 (by decide) (fun hc => ?_) (fun hc => ?_)
  · have H := H.1 hc
    exact xt_sub (lv' := [(0, .ref x0), (1, .int x1), (2, .int x2)]) [0, 1, 2] rfl H
  · have H := H.2 hc
    refine xt_aload_n (j := 0) dX11_readSum_206 rfl rfl ?_
    obtain ⟨b2, hb, H⟩ := H
    refine xt_getR dX11_readSum_207 (flX11_78 rfl) ft_13_28 ho1.1 ho1.2 hb ?_
    refine xt_aload_n (j := 0) dX11_readSum_210 rfl rfl ?_
    refine xt_getI dX11_readSum_211 (flX11_489 rfl) ft_13_29 ho1.1 ho1.2 ?_
    refine xt_iconst (v := 1) dX11_readSum_214 (by decide) ?_
    refine xt_isub dX11_readSum_215 ?_
    obtain ⟨ho3, H⟩ := H
    obtain ⟨hi, H⟩ := H
    refine xt_iald dX11_readSum_216 ho3.1 ho3.2 hi ?_
    refine xt_iconst (v := 3) dX11_readSum_217 (by decide) ?_
    refine xt_icmp_ne (tgt := 19) dX11_readSum_218 (by decide) (fun hc => ?_) (fun hc => ?_)
    · have H := H.1 hc
      exact xt_sub (lv' := [(0, .ref x0), (1, .int x1), (2, .int x2)]) [0, 1, 2] rfl H
    · have H := H.2 hc
      refine xt_aload_n (j := 0) dX11_readSum_221 rfl rfl ?_
      refine xt_aload_n (j := 0) dX11_readSum_222 rfl rfl ?_
      refine xt_iconst (v := 3) dX11_readSum_223 (by decide) ?_
      refine xt_aload_n (j := 0) dX11_readSum_224 rfl rfl ?_
      refine xt_callV (h2 := h) (as := []) (st := [.int 3, .ref x0, .ref x0]) dX11_readSum_225 (mlX11_498 rfl) rfl ho1.1 ⟨by rw [ho1.2]; rfl, by rw [ho1.2]; decide⟩ (by first | decide | (simp [Value.category]; done)) (Nat.le_refl _) H (fun r M4 HH hE => ?_)
      obtain ⟨r5, hr, H⟩ := HH hE
      subst hr
      have ho1 := ok_E ho1 hE
      show T _ _ _ _ [.int r5, .int 3, .ref x0, .ref x0] _ _
      refine xt_i2l dX11_readSum_228 ?_
      refine xt_iconst (v := 0) dX11_readSum_229 (by decide) ?_
      refine xt_callV (h2 := h) (as := [.int 3, .long ((r5 : Int32).toInt64), .int 0]) (st := [.ref x0]) dX11_readSum_230 (mlX11_526 rfl) rfl ho1.1 ⟨by rw [ho1.2]; rfl, by rw [ho1.2]; decide⟩ (by first | decide | (simp [Value.category]; done)) (Nat.le_refl _) H (fun r M6 HH hE => ?_)
      obtain ⟨r7, hr, H⟩ := HH hE
      subst hr
      have ho1 := ok_E ho1 hE
      show T _ _ _ _ [.int r7, .ref x0] _ _
      refine xt_callV (h2 := h) (as := [.int r7]) (st := []) dX11_readSum_233 (mlX11_506 rfl) rfl ho1.1 ⟨by rw [ho1.2]; rfl, by rw [ho1.2]; decide⟩ (by first | decide | (simp [Value.category]; done)) (Nat.le_refl _) H (fun r M8 HH hE => ?_)
      obtain ⟨hr, H⟩ := HH hE
      subst hr
      have ho1 := ok_E ho1 hE
      show T _ _ _ _ [] _ _
      refine xt_aload_n (j := 0) dX11_readSum_236 rfl rfl ?_
      refine xt_dup dX11_readSum_237 rfl ?_
      refine xt_getI dX11_readSum_238 (flX11_489 rfl) ft_13_29 ho1.1 ho1.2 ?_
      refine xt_iconst (v := 1) dX11_readSum_241 (by decide) ?_
      refine xt_isub dX11_readSum_242 ?_
      obtain ⟨M9, eM9⟩ : ∃ z, z = wI M8 x0 29 ((mI M8 x0 29) - 1) := ⟨_, rfl⟩
      have H := H _ eM9
      refine xt_putI dX11_readSum_243 (flX11_489 rfl) ty_13_29 rfl ho1.1 ho1.2 ?_
      have ho1 : ok M9 x0 13 := by rw [eM9]; exact ho1
      rw [← eM9]
      refine xt_aload_n (j := 0) dX11_readSum_246 rfl rfl ?_
      refine xt_dup dX11_readSum_247 rfl ?_
      refine xt_getI dX11_readSum_248 (flX11_486 rfl) ft_13_33 ho1.1 ho1.2 ?_
      refine xt_iconst (v := 1) dX11_readSum_251 (by decide) ?_
      refine xt_isub dX11_readSum_252 ?_
      obtain ⟨M10, eM10⟩ : ∃ z, z = wI M9 x0 33 ((mI M9 x0 33) - 1) := ⟨_, rfl⟩
      have H := H _ eM10
      refine xt_putI dX11_readSum_253 (flX11_486 rfl) ty_13_33 rfl ho1.1 ho1.2 ?_
      have ho1 : ok M10 x0 13 := by rw [eM10]; exact ho1
      rw [← eM10]
      refine xt_goto (tgt := 199) dX11_readSum_256 (by decide) ?_
      exact xt_sub (lv' := [(0, .ref x0), (1, .int x1), (2, .int x2)]) [0, 1, 2] rfl H
def DX11_readSum_109 (h : Nat) (x0 : Nat) (x2 : Int32) (x3 : Int32) (s0 : Nat) (s1 : Int32) (M : Mem) (Q : Option Value → Mem → Prop) : Prop :=
  ok M s0 13 ∧ E h mdX11_joinSums [.ref s0, .int s1] M (fun r M2 => mE M M2 → r = none ∧ ok M2 x0 13 ∧ ∃ b4 : Nat, mR M2 x0 28 = some b4 ∧ ok M2 b4 21 ∧ vp_in (mI M2 x0 29) (mL M2 b4) ∧ ∀ M6 : Mem, M6 = wAI M2 b4 (mI M2 x0 29 : Int32).toNatClampNeg x3 →
  ∀ M7 : Mem, M7 = wI M6 x0 29 ((mI M6 x0 29) + 1) →
  E h mdX11_take [.ref x0] M7 (fun r M8 => mE M7 M8 → r = none ∧ T (h + 1) mdX11_readSum 19 [(0, .ref x0), (1, .int 1), (2, .int x2)] [] M8 Q))
set_option maxRecDepth 20000 in
set_option maxHeartbeats 2000000 in
theorem VX11_readSum_109 {h : Nat} {x0 : Nat} {x2 : Int32} {x3 : Int32} {s0 : Nat} {s1 : Int32} {M : Mem} {Q : Option Value → Mem → Prop} (H : DX11_readSum_109 h x0 x2 x3 s0 s1 M Q) : T (h + 1) mdX11_readSum 109 [(0, .ref x0), (2, .int x2), (3, .int x3)] [.int s1, .ref s0] M Q := by
  unfold DX11_readSum_109 at H
  obtain ⟨ho1, H⟩ := H
  refine xt_callV (h2 := h) (as := [.int s1]) (st := []) dX11_readSum_109 (mlX11_549 rfl) rfl ho1.1 ⟨by rw [ho1.2]; rfl, by rw [ho1.2]; decide⟩ (by first | decide | (simp [Value.category]; done)) (Nat.le_refl _) H (fun r M2 HH hE => ?_)
  obtain ⟨hr, H⟩ := HH hE
  subst hr
  show T _ _ _ _ [] _ _
  refine xt_aload_n (j := 0) dX11_readSum_112 rfl rfl ?_
  obtain ⟨ho3, H⟩ := H
  obtain ⟨b4, hb, H⟩ := H
  refine xt_getR dX11_readSum_113 (flX11_78 rfl) ft_13_28 ho3.1 ho3.2 hb ?_
  refine xt_aload_n (j := 0) dX11_readSum_116 rfl rfl ?_
  refine xt_getI dX11_readSum_117 (flX11_489 rfl) ft_13_29 ho3.1 ho3.2 ?_
  refine xt_iload_n (j := 2) dX11_readSum_120 rfl rfl ?_
  obtain ⟨ho5, H⟩ := H
  obtain ⟨hi, H⟩ := H
  obtain ⟨M6, eM6⟩ : ∃ z, z = wAI M2 b4 (mI M2 x0 29 : Int32).toNatClampNeg x3 := ⟨_, rfl⟩
  have H := H _ eM6
  refine xt_iast dX11_readSum_121 ho5.1 ho5.2 hi ?_
  have ho3 : ok M6 x0 13 := by rw [eM6]; exact ho3
  rw [← eM6]
  refine xt_aload_n (j := 0) dX11_readSum_122 rfl rfl ?_
  refine xt_dup dX11_readSum_123 rfl ?_
  refine xt_getI dX11_readSum_124 (flX11_489 rfl) ft_13_29 ho3.1 ho3.2 ?_
  refine xt_iconst (v := 1) dX11_readSum_127 (by decide) ?_
  refine xt_iadd dX11_readSum_128 ?_
  obtain ⟨M7, eM7⟩ : ∃ z, z = wI M6 x0 29 ((mI M6 x0 29) + 1) := ⟨_, rfl⟩
  have H := H _ eM7
  refine xt_putI dX11_readSum_129 (flX11_489 rfl) ty_13_29 rfl ho3.1 ho3.2 ?_
  have ho3 : ok M7 x0 13 := by rw [eM7]; exact ho3
  rw [← eM7]
  refine xt_aload_n (j := 0) dX11_readSum_132 rfl rfl ?_
  refine xt_callV (h2 := h) (as := []) (st := []) dX11_readSum_133 (mlX11_377 rfl) rfl ho3.1 ⟨by rw [ho3.2]; rfl, by rw [ho3.2]; decide⟩ (by first | decide | (simp [Value.category]; done)) (Nat.le_refl _) H (fun r M8 HH hE => ?_)
  obtain ⟨hr, H⟩ := HH hE
  subst hr
  have ho3 := ok_E ho3 hE
  show T _ _ _ _ [] _ _
  refine xt_iconst (v := 1) dX11_readSum_136 (by decide) ?_
  refine xt_istore_n (lv' := [(1, .int 1), (0, .ref x0), (2, .int x2), (3, .int x3)]) dX11_readSum_137 rfl (by decide) rfl ?_
  refine xt_goto (tgt := 19) dX11_readSum_138 (by decide) ?_
  exact xt_sub (lv' := [(0, .ref x0), (1, .int 1), (2, .int x2)]) [1, 0, 2] rfl H
def DX11_readSum_19 (h : Nat) (x0 : Nat) (x1 : Int32) (x2 : Int32) (M : Mem) (Q : Option Value → Mem → Prop) : Prop :=
  (x2 = 0 → DX11_readSum_264 h x0 M Q) ∧
  (¬ (x2 = 0) → ok M x0 13 ∧ (¬ (mI M x0 6) = 0 → DX11_readSum_264 h x0 M Q) ∧
  ((mI M x0 6) = 0 → (x1 = 0 → E h mdX11_operator [.ref x0] M (fun r M2 => mE M M2 → ∃ r3 : Int32, r = some (.int r3) ∧ (r3 = (-1) → ((mI M2 x0 32) ≤ 0 → DX11_readSum_259 h x0 x1 M2 Q) ∧
  (¬ ((mI M2 x0 32) ≤ 0) → E h mdX11_isSaid [.ref x0, .int 3, .long 41] M2 (fun r M4 => mE M2 M4 → ∃ r5 : Int32, r = some (.int r5) ∧ (r5 = 0 → DX11_readSum_259 h x0 x1 M4 Q) ∧
  (¬ (r5 = 0) → E h mdX11_joinSums [.ref x0, .int 8] M4 (fun r M6 => mE M4 M6 → r = none ∧ ∀ M7 : Mem, M7 = wI M6 x0 29 ((mI M6 x0 29) - 1) →
  ∀ M8 : Mem, M8 = wI M7 x0 32 ((mI M7 x0 32) - 1) →
  ∀ M9 : Mem, M9 = wI M8 x0 33 ((mI M8 x0 33) - 1) →
  E h mdX11_take [.ref x0] M9 (fun r M10 => mE M9 M10 → r = none ∧ T (h + 1) mdX11_readSum 199 [(0, .ref x0), (1, .int x1), (2, .int x2)] [] M10 Q)))))) ∧
  (¬ (r3 = (-1)) → E h mdX11_operator [.ref x0] M2 (fun r M11 => mE M2 M11 → ∃ r12 : Int32, r = some (.int r12) ∧ (7 ≤ r12 → DX11_readSum_109 h x0 x2 r12 x0 8 M11 Q) ∧
  (¬ (7 ≤ r12) → DX11_readSum_109 h x0 x2 r12 x0 6 M11 Q))))) ∧
  (¬ (x1 = 0) → E h mdX11_isSaid [.ref x0, .int 3, .long 45] M (fun r M13 => mE M M13 → ∃ r14 : Int32, r = some (.int r14) ∧ (r14 = 0 → E h mdX11_isSaid [.ref x0, .int 3, .long 40] M13 (fun r M15 => mE M13 M15 → ∃ r16 : Int32, r = some (.int r16) ∧ (r16 = 0 → E h mdX11_readOperand [.ref x0] M15 (fun r M17 => mE M15 M17 → r = none ∧ T (h + 1) mdX11_readSum 19 [(0, .ref x0), (1, .int 0), (2, .int x2)] [] M17 Q)) ∧
  (¬ (r16 = 0) → E h mdX11_opening [.ref x0, .int 9] M15 (fun r M18 => mE M15 M18 → r = none ∧ T (h + 1) mdX11_readSum 19 [(0, .ref x0), (1, .int x1), (2, .int x2)] [] M18 Q)))) ∧
  (¬ (r14 = 0) → E h mdX11_opening [.ref x0, .int 3] M13 (fun r M19 => mE M13 M19 → r = none ∧ T (h + 1) mdX11_readSum 19 [(0, .ref x0), (1, .int x1), (2, .int x2)] [] M19 Q))))))
set_option maxRecDepth 20000 in
set_option maxHeartbeats 2000000 in
theorem VX11_readSum_19 {h : Nat} {x0 : Nat} {x1 : Int32} {x2 : Int32} {M : Mem} {Q : Option Value → Mem → Prop} (H : DX11_readSum_19 h x0 x1 x2 M Q) : T (h + 1) mdX11_readSum 19 [(0, .ref x0), (1, .int x1), (2, .int x2)] [] M Q := by
  unfold DX11_readSum_19 at H
  refine xt_iload_n (j := 2) dX11_readSum_19 rfl rfl ?_
  refine xt_if_eq (tgt := 264) dX11_readSum_20 (by decide) (fun hc => ?_) (fun hc => ?_)
  · have H := H.1 hc
    exact xt_sub [0] rfl (VX11_readSum_264 H)
  · have H := H.2 hc
    refine xt_aload_n (j := 0) dX11_readSum_23 rfl rfl ?_
    obtain ⟨ho1, H⟩ := H
    refine xt_getI dX11_readSum_24 (flX11_360 rfl) ft_13_6 ho1.1 ho1.2 ?_
    refine xt_if_ne (tgt := 264) dX11_readSum_27 (by decide) (fun hc => ?_) (fun hc => ?_)
    · have H := H.1 hc
      exact xt_sub [0] rfl (VX11_readSum_264 H)
    · have H := H.2 hc
      refine xt_iload_n (j := 1) dX11_readSum_30 rfl rfl ?_
      refine xt_if_eq (tgt := 82) dX11_readSum_31 (by decide) (fun hc => ?_) (fun hc => ?_)
      · have H := H.1 hc
        refine xt_aload_n (j := 0) dX11_readSum_82 rfl rfl ?_
        refine xt_callV (h2 := h) (as := []) (st := []) dX11_readSum_83 (mlX11_546 rfl) rfl ho1.1 ⟨by rw [ho1.2]; rfl, by rw [ho1.2]; decide⟩ (by first | decide | (simp [Value.category]; done)) (Nat.le_refl _) H (fun r M2 HH hE => ?_)
        obtain ⟨r3, hr, H⟩ := HH hE
        subst hr
        have ho1 := ok_E ho1 hE
        show T _ _ _ _ [.int r3] _ _
        refine xt_iconst (v := -1) dX11_readSum_86 (by decide) ?_
        refine xt_icmp_eq (tgt := 141) dX11_readSum_87 (by decide) (fun hc => ?_) (fun hc => ?_)
        · have H := H.1 hc
          refine xt_aload_n (j := 0) dX11_readSum_141 rfl rfl ?_
          refine xt_getI dX11_readSum_142 (flX11_492 rfl) ft_13_32 ho1.1 ho1.2 ?_
          refine xt_if_le (tgt := 259) dX11_readSum_145 (by decide) (fun hc => ?_) (fun hc => ?_)
          · have H := H.1 hc
            exact xt_sub [0, 1] rfl (VX11_readSum_259 H)
          · have H := H.2 hc
            refine xt_aload_n (j := 0) dX11_readSum_148 rfl rfl ?_
            refine xt_iconst (v := 3) dX11_readSum_149 (by decide) ?_
            refine xt_ldc2 (v := 41) dX11_readSum_150 (ctX11_524 rfl) ?_
            refine xt_callV (h2 := h) (as := [.int 3, .long 41]) (st := []) dX11_readSum_153 (mlX11_373 rfl) rfl ho1.1 ⟨by rw [ho1.2]; rfl, by rw [ho1.2]; decide⟩ (by first | decide | (simp [Value.category]; done)) (Nat.le_refl _) H (fun r M4 HH hE => ?_)
            obtain ⟨r5, hr, H⟩ := HH hE
            subst hr
            have ho1 := ok_E ho1 hE
            show T _ _ _ _ [.int r5] _ _
            refine xt_if_eq (tgt := 259) dX11_readSum_156 (by decide) (fun hc => ?_) (fun hc => ?_)
            · have H := H.1 hc
              exact xt_sub [0, 1] rfl (VX11_readSum_259 H)
            · have H := H.2 hc
              refine xt_aload_n (j := 0) dX11_readSum_159 rfl rfl ?_
              refine xt_bipush (v := 8) dX11_readSum_160 (by decide) ?_
              refine xt_callV (h2 := h) (as := [.int 8]) (st := []) dX11_readSum_162 (mlX11_549 rfl) rfl ho1.1 ⟨by rw [ho1.2]; rfl, by rw [ho1.2]; decide⟩ (by first | decide | (simp [Value.category]; done)) (Nat.le_refl _) H (fun r M6 HH hE => ?_)
              obtain ⟨hr, H⟩ := HH hE
              subst hr
              have ho1 := ok_E ho1 hE
              show T _ _ _ _ [] _ _
              refine xt_aload_n (j := 0) dX11_readSum_165 rfl rfl ?_
              refine xt_dup dX11_readSum_166 rfl ?_
              refine xt_getI dX11_readSum_167 (flX11_489 rfl) ft_13_29 ho1.1 ho1.2 ?_
              refine xt_iconst (v := 1) dX11_readSum_170 (by decide) ?_
              refine xt_isub dX11_readSum_171 ?_
              obtain ⟨M7, eM7⟩ : ∃ z, z = wI M6 x0 29 ((mI M6 x0 29) - 1) := ⟨_, rfl⟩
              have H := H _ eM7
              refine xt_putI dX11_readSum_172 (flX11_489 rfl) ty_13_29 rfl ho1.1 ho1.2 ?_
              have ho1 : ok M7 x0 13 := by rw [eM7]; exact ho1
              rw [← eM7]
              refine xt_aload_n (j := 0) dX11_readSum_175 rfl rfl ?_
              refine xt_dup dX11_readSum_176 rfl ?_
              refine xt_getI dX11_readSum_177 (flX11_492 rfl) ft_13_32 ho1.1 ho1.2 ?_
              refine xt_iconst (v := 1) dX11_readSum_180 (by decide) ?_
              refine xt_isub dX11_readSum_181 ?_
              obtain ⟨M8, eM8⟩ : ∃ z, z = wI M7 x0 32 ((mI M7 x0 32) - 1) := ⟨_, rfl⟩
              have H := H _ eM8
              refine xt_putI dX11_readSum_182 (flX11_492 rfl) ty_13_32 rfl ho1.1 ho1.2 ?_
              have ho1 : ok M8 x0 13 := by rw [eM8]; exact ho1
              rw [← eM8]
              refine xt_aload_n (j := 0) dX11_readSum_185 rfl rfl ?_
              refine xt_dup dX11_readSum_186 rfl ?_
              refine xt_getI dX11_readSum_187 (flX11_486 rfl) ft_13_33 ho1.1 ho1.2 ?_
              refine xt_iconst (v := 1) dX11_readSum_190 (by decide) ?_
              refine xt_isub dX11_readSum_191 ?_
              obtain ⟨M9, eM9⟩ : ∃ z, z = wI M8 x0 33 ((mI M8 x0 33) - 1) := ⟨_, rfl⟩
              have H := H _ eM9
              refine xt_putI dX11_readSum_192 (flX11_486 rfl) ty_13_33 rfl ho1.1 ho1.2 ?_
              have ho1 : ok M9 x0 13 := by rw [eM9]; exact ho1
              rw [← eM9]
              refine xt_aload_n (j := 0) dX11_readSum_195 rfl rfl ?_
              refine xt_callV (h2 := h) (as := []) (st := []) dX11_readSum_196 (mlX11_377 rfl) rfl ho1.1 ⟨by rw [ho1.2]; rfl, by rw [ho1.2]; decide⟩ (by first | decide | (simp [Value.category]; done)) (Nat.le_refl _) H (fun r M10 HH hE => ?_)
              obtain ⟨hr, H⟩ := HH hE
              subst hr
              have ho1 := ok_E ho1 hE
              show T _ _ _ _ [] _ _
              exact xt_sub (lv' := [(0, .ref x0), (1, .int x1), (2, .int x2)]) [0, 1, 2] rfl H
        · have H := H.2 hc
          refine xt_aload_n (j := 0) dX11_readSum_90 rfl rfl ?_
          refine xt_callV (h2 := h) (as := []) (st := []) dX11_readSum_91 (mlX11_546 rfl) rfl ho1.1 ⟨by rw [ho1.2]; rfl, by rw [ho1.2]; decide⟩ (by first | decide | (simp [Value.category]; done)) (Nat.le_refl _) H (fun r M11 HH hE => ?_)
          obtain ⟨r12, hr, H⟩ := HH hE
          subst hr
          have ho1 := ok_E ho1 hE
          show T _ _ _ _ [.int r12] _ _
          refine xt_istore_n (lv' := [(3, .int r12), (0, .ref x0), (1, .int x1), (2, .int x2)]) dX11_readSum_94 rfl (by decide) rfl ?_
          refine xt_aload_n (j := 1) dX11_readSum_95 rfl rfl ?_
          refine xt_iload_n (j := 0) dX11_readSum_96 rfl rfl ?_
          refine xt_bipush (v := 7) dX11_readSum_97 (by decide) ?_
          refine xt_icmp_ge (tgt := 107) dX11_readSum_99 (by decide) (fun hc => ?_) (fun hc => ?_)
          · have H := H.1 hc
            refine xt_bipush (v := 8) dX11_readSum_107 (by decide) ?_
            exact xt_sub [1, 3, 0] rfl (VX11_readSum_109 H)
          · have H := H.2 hc
            refine xt_bipush (v := 6) dX11_readSum_102 (by decide) ?_
            refine xt_goto (tgt := 109) dX11_readSum_104 (by decide) ?_
            exact xt_sub [1, 3, 0] rfl (VX11_readSum_109 H)
      · have H := H.2 hc
        refine xt_aload_n (j := 0) dX11_readSum_34 rfl rfl ?_
        refine xt_iconst (v := 3) dX11_readSum_35 (by decide) ?_
        refine xt_ldc2 (v := 45) dX11_readSum_36 (ctX11_482 rfl) ?_
        refine xt_callV (h2 := h) (as := [.int 3, .long 45]) (st := []) dX11_readSum_39 (mlX11_373 rfl) rfl ho1.1 ⟨by rw [ho1.2]; rfl, by rw [ho1.2]; decide⟩ (by first | decide | (simp [Value.category]; done)) (Nat.le_refl _) H (fun r M13 HH hE => ?_)
        obtain ⟨r14, hr, H⟩ := HH hE
        subst hr
        have ho1 := ok_E ho1 hE
        show T _ _ _ _ [.int r14] _ _
        refine xt_if_eq (tgt := 53) dX11_readSum_42 (by decide) (fun hc => ?_) (fun hc => ?_)
        · have H := H.1 hc
          refine xt_aload_n (j := 0) dX11_readSum_53 rfl rfl ?_
          refine xt_iconst (v := 3) dX11_readSum_54 (by decide) ?_
          refine xt_ldc2 (v := 40) dX11_readSum_55 (ctX11_515 rfl) ?_
          refine xt_callV (h2 := h) (as := [.int 3, .long 40]) (st := []) dX11_readSum_58 (mlX11_373 rfl) rfl ho1.1 ⟨by rw [ho1.2]; rfl, by rw [ho1.2]; decide⟩ (by first | decide | (simp [Value.category]; done)) (Nat.le_refl _) H (fun r M15 HH hE => ?_)
          obtain ⟨r16, hr, H⟩ := HH hE
          subst hr
          have ho1 := ok_E ho1 hE
          show T _ _ _ _ [.int r16] _ _
          refine xt_if_eq (tgt := 73) dX11_readSum_61 (by decide) (fun hc => ?_) (fun hc => ?_)
          · have H := H.1 hc
            refine xt_aload_n (j := 0) dX11_readSum_73 rfl rfl ?_
            refine xt_callV (h2 := h) (as := []) (st := []) dX11_readSum_74 (mlX11_543 rfl) rfl ho1.1 ⟨by rw [ho1.2]; rfl, by rw [ho1.2]; decide⟩ (by first | decide | (simp [Value.category]; done)) (Nat.le_refl _) H (fun r M17 HH hE => ?_)
            obtain ⟨hr, H⟩ := HH hE
            subst hr
            have ho1 := ok_E ho1 hE
            show T _ _ _ _ [] _ _
            refine xt_iconst (v := 0) dX11_readSum_77 (by decide) ?_
            refine xt_istore_n (lv' := [(1, .int 0), (0, .ref x0), (2, .int x2)]) dX11_readSum_78 rfl (by decide) rfl ?_
            refine xt_goto (tgt := 19) dX11_readSum_79 (by decide) ?_
            exact xt_sub (lv' := [(0, .ref x0), (1, .int 0), (2, .int x2)]) [1, 0, 2] rfl H
          · have H := H.2 hc
            refine xt_aload_n (j := 0) dX11_readSum_64 rfl rfl ?_
            refine xt_bipush (v := 9) dX11_readSum_65 (by decide) ?_
            refine xt_callV (h2 := h) (as := [.int 9]) (st := []) dX11_readSum_67 (mlX11_512 rfl) rfl ho1.1 ⟨by rw [ho1.2]; rfl, by rw [ho1.2]; decide⟩ (by first | decide | (simp [Value.category]; done)) (Nat.le_refl _) H (fun r M18 HH hE => ?_)
            obtain ⟨hr, H⟩ := HH hE
            subst hr
            have ho1 := ok_E ho1 hE
            show T _ _ _ _ [] _ _
            refine xt_goto (tgt := 19) dX11_readSum_70 (by decide) ?_
            exact xt_sub (lv' := [(0, .ref x0), (1, .int x1), (2, .int x2)]) [0, 1, 2] rfl H
        · have H := H.2 hc
          refine xt_aload_n (j := 0) dX11_readSum_45 rfl rfl ?_
          refine xt_iconst (v := 3) dX11_readSum_46 (by decide) ?_
          refine xt_callV (h2 := h) (as := [.int 3]) (st := []) dX11_readSum_47 (mlX11_512 rfl) rfl ho1.1 ⟨by rw [ho1.2]; rfl, by rw [ho1.2]; decide⟩ (by first | decide | (simp [Value.category]; done)) (Nat.le_refl _) H (fun r M19 HH hE => ?_)
          obtain ⟨hr, H⟩ := HH hE
          subst hr
          have ho1 := ok_E ho1 hE
          show T _ _ _ _ [] _ _
          refine xt_goto (tgt := 19) dX11_readSum_50 (by decide) ?_
          exact xt_sub (lv' := [(0, .ref x0), (1, .int x1), (2, .int x2)]) [0, 1, 2] rfl H
def DX11_readSum_0 (h : Nat) (x0 : Nat) (M : Mem) (Q : Option Value → Mem → Prop) : Prop :=
  ok M x0 13 ∧ ∀ M2 : Mem, M2 = wI M x0 29 0 →
  ∀ M3 : Mem, M3 = wI M2 x0 31 0 →
  ∀ M4 : Mem, M4 = wI M3 x0 32 0 →
  T (h + 1) mdX11_readSum 19 [(0, .ref x0), (1, .int 1), (2, .int 1)] [] M4 Q
set_option maxRecDepth 20000 in
set_option maxHeartbeats 2000000 in
theorem VX11_readSum_0 {h : Nat} {x0 : Nat} {M : Mem} {Q : Option Value → Mem → Prop} (H : DX11_readSum_0 h x0 M Q) : T (h + 1) mdX11_readSum 0 [(0, .ref x0)] [] M Q := by
  unfold DX11_readSum_0 at H
  refine xt_aload_n (j := 0) dX11_readSum_0 rfl rfl ?_
  refine xt_iconst (v := 0) dX11_readSum_1 (by decide) ?_
  obtain ⟨ho1, H⟩ := H
  obtain ⟨M2, eM2⟩ : ∃ z, z = wI M x0 29 0 := ⟨_, rfl⟩
  have H := H _ eM2
  refine xt_putI dX11_readSum_2 (flX11_489 rfl) ty_13_29 rfl ho1.1 ho1.2 ?_
  have ho1 : ok M2 x0 13 := by rw [eM2]; exact ho1
  rw [← eM2]
  refine xt_aload_n (j := 0) dX11_readSum_5 rfl rfl ?_
  refine xt_iconst (v := 0) dX11_readSum_6 (by decide) ?_
  obtain ⟨M3, eM3⟩ : ∃ z, z = wI M2 x0 31 0 := ⟨_, rfl⟩
  have H := H _ eM3
  refine xt_putI dX11_readSum_7 (flX11_495 rfl) ty_13_31 rfl ho1.1 ho1.2 ?_
  have ho1 : ok M3 x0 13 := by rw [eM3]; exact ho1
  rw [← eM3]
  refine xt_aload_n (j := 0) dX11_readSum_10 rfl rfl ?_
  refine xt_iconst (v := 0) dX11_readSum_11 (by decide) ?_
  obtain ⟨M4, eM4⟩ : ∃ z, z = wI M3 x0 32 0 := ⟨_, rfl⟩
  have H := H _ eM4
  refine xt_putI dX11_readSum_12 (flX11_492 rfl) ty_13_32 rfl ho1.1 ho1.2 ?_
  have ho1 : ok M4 x0 13 := by rw [eM4]; exact ho1
  rw [← eM4]
  refine xt_iconst (v := 1) dX11_readSum_15 (by decide) ?_
  refine xt_istore_n (lv' := [(1, .int 1), (0, .ref x0)]) dX11_readSum_16 rfl (by decide) rfl ?_
  refine xt_iconst (v := 1) dX11_readSum_17 (by decide) ?_
  refine xt_istore_n (lv' := [(2, .int 1), (1, .int 1), (0, .ref x0)]) dX11_readSum_18 rfl (by decide) rfl ?_
  exact xt_sub (lv' := [(0, .ref x0), (1, .int 1), (2, .int 1)]) [2, 1, 0] rfl H
theorem KX11_readSum {h : Nat} {x0 : Nat} {M : Mem} {Q : Option Value → Mem → Prop} (H : DX11_readSum_0 h x0 M Q) : E (h + 1) mdX11_readSum [.ref x0] M Q := E.of (by decide) (Nat.le_of_ble_eq_true rfl) (fun _ _ _ => trivial) (VX11_readSum_0 H)
def DX11_sortOf_241 (h : Nat) (s0 : Int32) (M : Mem) (Q : Option Value → Mem → Prop) : Prop :=
  Q (some (.int s0)) M
set_option maxRecDepth 20000 in
set_option maxHeartbeats 2000000 in
theorem VX11_sortOf_241 {h : Nat} {s0 : Int32} {M : Mem} {Q : Option Value → Mem → Prop} (H : DX11_sortOf_241 h s0 M Q) : T (h + 1) mdX11_sortOf 241 [] [.int s0] M Q := by
  unfold DX11_sortOf_241 at H
  exact xt_ireturn dX11_sortOf_241 rfl H
def DX11_sortOf_50 (h : Nat) (s0 : Int64) (M : Mem) (Q : Option Value → Mem → Prop) : Prop :=
  (¬ (lg_cmp s0 5649913681) = 0 → (¬ (lg_cmp s0 8538566) = 0 → (¬ (lg_cmp s0 158537) = 0 → (¬ (lg_cmp s0 108155) = 0 → (¬ (lg_cmp s0 7672808363) = 0 → (¬ (lg_cmp s0 247552) = 0 → (¬ (lg_cmp s0 6460043375) = 0 → (¬ (lg_cmp s0 985142) = 0 → (¬ (lg_cmp s0 582248) = 0 → (¬ (lg_cmp s0 456392) = 0 → (¬ (lg_cmp s0 7672732672) = 0 → (¬ (lg_cmp s0 3094387) = 0 → (¬ (lg_cmp s0 406825) = 0 → (¬ (lg_cmp s0 116174) = 0 → (¬ (lg_cmp s0 249) = 0 → DX11_sortOf_241 h (-1) M Q) ∧
  ((lg_cmp s0 249) = 0 → DX11_sortOf_241 h 14 M Q)) ∧
  ((lg_cmp s0 116174) = 0 → DX11_sortOf_241 h 13 M Q)) ∧
  ((lg_cmp s0 406825) = 0 → DX11_sortOf_241 h 12 M Q)) ∧
  ((lg_cmp s0 3094387) = 0 → DX11_sortOf_241 h 11 M Q)) ∧
  ((lg_cmp s0 7672732672) = 0 → DX11_sortOf_241 h 10 M Q)) ∧
  ((lg_cmp s0 456392) = 0 → DX11_sortOf_241 h 9 M Q)) ∧
  ((lg_cmp s0 582248) = 0 → DX11_sortOf_241 h 8 M Q)) ∧
  ((lg_cmp s0 985142) = 0 → DX11_sortOf_241 h 7 M Q)) ∧
  ((lg_cmp s0 6460043375) = 0 → DX11_sortOf_241 h 6 M Q)) ∧
  ((lg_cmp s0 247552) = 0 → DX11_sortOf_241 h 5 M Q)) ∧
  ((lg_cmp s0 7672808363) = 0 → DX11_sortOf_241 h 4 M Q)) ∧
  ((lg_cmp s0 108155) = 0 → DX11_sortOf_241 h 3 M Q)) ∧
  ((lg_cmp s0 158537) = 0 → DX11_sortOf_241 h 2 M Q)) ∧
  ((lg_cmp s0 8538566) = 0 → DX11_sortOf_241 h 1 M Q)) ∧
  ((lg_cmp s0 5649913681) = 0 → DX11_sortOf_241 h 0 M Q)
set_option maxRecDepth 20000 in
set_option maxHeartbeats 2000000 in
theorem VX11_sortOf_50 {h : Nat} {s0 : Int64} {M : Mem} {Q : Option Value → Mem → Prop} (H : DX11_sortOf_50 h s0 M Q) : T (h + 1) mdX11_sortOf 50 [] [.long s0] M Q := by
  unfold DX11_sortOf_50 at H
  refine xt_lstore_n (lv' := [(1, .long s0)]) dX11_sortOf_50 rfl (by decide) rfl ?_
  refine xt_lload_n (j := 0) dX11_sortOf_51 rfl rfl ?_
  refine xt_ldc2 (v := 5649913681) dX11_sortOf_52 (ctX11_394 rfl) ?_
  refine xt_lcmp dX11_sortOf_55 ?_
  refine xt_if_ne (tgt := 63) dX11_sortOf_56 (by decide) (fun hc => ?_) (fun hc => ?_)
  · have H := H.1 hc
    refine xt_lload_n (j := 0) dX11_sortOf_63 rfl rfl ?_
    refine xt_ldc2 (v := 8538566) dX11_sortOf_64 (ctX11_396 rfl) ?_
    refine xt_lcmp dX11_sortOf_67 ?_
    refine xt_if_ne (tgt := 75) dX11_sortOf_68 (by decide) (fun hc => ?_) (fun hc => ?_)
    · have H := H.1 hc
      refine xt_lload_n (j := 0) dX11_sortOf_75 rfl rfl ?_
      refine xt_ldc2 (v := 158537) dX11_sortOf_76 (ctX11_398 rfl) ?_
      refine xt_lcmp dX11_sortOf_79 ?_
      refine xt_if_ne (tgt := 87) dX11_sortOf_80 (by decide) (fun hc => ?_) (fun hc => ?_)
      · have H := H.1 hc
        refine xt_lload_n (j := 0) dX11_sortOf_87 rfl rfl ?_
        refine xt_ldc2 (v := 108155) dX11_sortOf_88 (ctX11_400 rfl) ?_
        refine xt_lcmp dX11_sortOf_91 ?_
        refine xt_if_ne (tgt := 99) dX11_sortOf_92 (by decide) (fun hc => ?_) (fun hc => ?_)
        · have H := H.1 hc
          refine xt_lload_n (j := 0) dX11_sortOf_99 rfl rfl ?_
          refine xt_ldc2 (v := 7672808363) dX11_sortOf_100 (ctX11_402 rfl) ?_
          refine xt_lcmp dX11_sortOf_103 ?_
          refine xt_if_ne (tgt := 111) dX11_sortOf_104 (by decide) (fun hc => ?_) (fun hc => ?_)
          · have H := H.1 hc
            refine xt_lload_n (j := 0) dX11_sortOf_111 rfl rfl ?_
            refine xt_ldc2 (v := 247552) dX11_sortOf_112 (ctX11_410 rfl) ?_
            refine xt_lcmp dX11_sortOf_115 ?_
            refine xt_if_ne (tgt := 123) dX11_sortOf_116 (by decide) (fun hc => ?_) (fun hc => ?_)
            · have H := H.1 hc
              refine xt_lload_n (j := 0) dX11_sortOf_123 rfl rfl ?_
              refine xt_ldc2 (v := 6460043375) dX11_sortOf_124 (ctX11_412 rfl) ?_
              refine xt_lcmp dX11_sortOf_127 ?_
              refine xt_if_ne (tgt := 136) dX11_sortOf_128 (by decide) (fun hc => ?_) (fun hc => ?_)
              · have H := H.1 hc
                refine xt_lload_n (j := 0) dX11_sortOf_136 rfl rfl ?_
                refine xt_ldc2 (v := 985142) dX11_sortOf_137 (ctX11_414 rfl) ?_
                refine xt_lcmp dX11_sortOf_140 ?_
                refine xt_if_ne (tgt := 149) dX11_sortOf_141 (by decide) (fun hc => ?_) (fun hc => ?_)
                · have H := H.1 hc
                  refine xt_lload_n (j := 0) dX11_sortOf_149 rfl rfl ?_
                  refine xt_ldc2 (v := 582248) dX11_sortOf_150 (ctX11_416 rfl) ?_
                  refine xt_lcmp dX11_sortOf_153 ?_
                  refine xt_if_ne (tgt := 162) dX11_sortOf_154 (by decide) (fun hc => ?_) (fun hc => ?_)
                  · have H := H.1 hc
                    refine xt_lload_n (j := 0) dX11_sortOf_162 rfl rfl ?_
                    refine xt_ldc2 (v := 456392) dX11_sortOf_163 (ctX11_418 rfl) ?_
                    refine xt_lcmp dX11_sortOf_166 ?_
                    refine xt_if_ne (tgt := 175) dX11_sortOf_167 (by decide) (fun hc => ?_) (fun hc => ?_)
                    · have H := H.1 hc
                      refine xt_lload_n (j := 0) dX11_sortOf_175 rfl rfl ?_
                      refine xt_ldc2 (v := 7672732672) dX11_sortOf_176 (ctX11_420 rfl) ?_
                      refine xt_lcmp dX11_sortOf_179 ?_
                      refine xt_if_ne (tgt := 188) dX11_sortOf_180 (by decide) (fun hc => ?_) (fun hc => ?_)
                      · have H := H.1 hc
                        refine xt_lload_n (j := 0) dX11_sortOf_188 rfl rfl ?_
                        refine xt_ldc2 (v := 3094387) dX11_sortOf_189 (ctX11_422 rfl) ?_
                        refine xt_lcmp dX11_sortOf_192 ?_
                        refine xt_if_ne (tgt := 201) dX11_sortOf_193 (by decide) (fun hc => ?_) (fun hc => ?_)
                        · have H := H.1 hc
                          refine xt_lload_n (j := 0) dX11_sortOf_201 rfl rfl ?_
                          refine xt_ldc2 (v := 406825) dX11_sortOf_202 (ctX11_408 rfl) ?_
                          refine xt_lcmp dX11_sortOf_205 ?_
                          refine xt_if_ne (tgt := 214) dX11_sortOf_206 (by decide) (fun hc => ?_) (fun hc => ?_)
                          · have H := H.1 hc
                            refine xt_lload_n (j := 0) dX11_sortOf_214 rfl rfl ?_
                            refine xt_ldc2 (v := 116174) dX11_sortOf_215 (ctX11_404 rfl) ?_
                            refine xt_lcmp dX11_sortOf_218 ?_
                            refine xt_if_ne (tgt := 227) dX11_sortOf_219 (by decide) (fun hc => ?_) (fun hc => ?_)
                            · have H := H.1 hc
                              refine xt_lload_n (j := 0) dX11_sortOf_227 rfl rfl ?_
                              refine xt_ldc2 (v := 249) dX11_sortOf_228 (ctX11_406 rfl) ?_
                              refine xt_lcmp dX11_sortOf_231 ?_
                              refine xt_if_ne (tgt := 240) dX11_sortOf_232 (by decide) (fun hc => ?_) (fun hc => ?_)
                              · have H := H.1 hc
                                refine xt_iconst (v := -1) dX11_sortOf_240 (by decide) ?_
                                exact xt_sub [] rfl (VX11_sortOf_241 H)
                              · have H := H.2 hc
                                refine xt_bipush (v := 14) dX11_sortOf_235 (by decide) ?_
                                refine xt_goto (tgt := 241) dX11_sortOf_237 (by decide) ?_
                                exact xt_sub [] rfl (VX11_sortOf_241 H)
                            · have H := H.2 hc
                              refine xt_bipush (v := 13) dX11_sortOf_222 (by decide) ?_
                              refine xt_goto (tgt := 241) dX11_sortOf_224 (by decide) ?_
                              exact xt_sub [] rfl (VX11_sortOf_241 H)
                          · have H := H.2 hc
                            refine xt_bipush (v := 12) dX11_sortOf_209 (by decide) ?_
                            refine xt_goto (tgt := 241) dX11_sortOf_211 (by decide) ?_
                            exact xt_sub [] rfl (VX11_sortOf_241 H)
                        · have H := H.2 hc
                          refine xt_bipush (v := 11) dX11_sortOf_196 (by decide) ?_
                          refine xt_goto (tgt := 241) dX11_sortOf_198 (by decide) ?_
                          exact xt_sub [] rfl (VX11_sortOf_241 H)
                      · have H := H.2 hc
                        refine xt_bipush (v := 10) dX11_sortOf_183 (by decide) ?_
                        refine xt_goto (tgt := 241) dX11_sortOf_185 (by decide) ?_
                        exact xt_sub [] rfl (VX11_sortOf_241 H)
                    · have H := H.2 hc
                      refine xt_bipush (v := 9) dX11_sortOf_170 (by decide) ?_
                      refine xt_goto (tgt := 241) dX11_sortOf_172 (by decide) ?_
                      exact xt_sub [] rfl (VX11_sortOf_241 H)
                  · have H := H.2 hc
                    refine xt_bipush (v := 8) dX11_sortOf_157 (by decide) ?_
                    refine xt_goto (tgt := 241) dX11_sortOf_159 (by decide) ?_
                    exact xt_sub [] rfl (VX11_sortOf_241 H)
                · have H := H.2 hc
                  refine xt_bipush (v := 7) dX11_sortOf_144 (by decide) ?_
                  refine xt_goto (tgt := 241) dX11_sortOf_146 (by decide) ?_
                  exact xt_sub [] rfl (VX11_sortOf_241 H)
              · have H := H.2 hc
                refine xt_bipush (v := 6) dX11_sortOf_131 (by decide) ?_
                refine xt_goto (tgt := 241) dX11_sortOf_133 (by decide) ?_
                exact xt_sub [] rfl (VX11_sortOf_241 H)
            · have H := H.2 hc
              refine xt_iconst (v := 5) dX11_sortOf_119 (by decide) ?_
              refine xt_goto (tgt := 241) dX11_sortOf_120 (by decide) ?_
              exact xt_sub [] rfl (VX11_sortOf_241 H)
          · have H := H.2 hc
            refine xt_iconst (v := 4) dX11_sortOf_107 (by decide) ?_
            refine xt_goto (tgt := 241) dX11_sortOf_108 (by decide) ?_
            exact xt_sub [] rfl (VX11_sortOf_241 H)
        · have H := H.2 hc
          refine xt_iconst (v := 3) dX11_sortOf_95 (by decide) ?_
          refine xt_goto (tgt := 241) dX11_sortOf_96 (by decide) ?_
          exact xt_sub [] rfl (VX11_sortOf_241 H)
      · have H := H.2 hc
        refine xt_iconst (v := 2) dX11_sortOf_83 (by decide) ?_
        refine xt_goto (tgt := 241) dX11_sortOf_84 (by decide) ?_
        exact xt_sub [] rfl (VX11_sortOf_241 H)
    · have H := H.2 hc
      refine xt_iconst (v := 1) dX11_sortOf_71 (by decide) ?_
      refine xt_goto (tgt := 241) dX11_sortOf_72 (by decide) ?_
      exact xt_sub [] rfl (VX11_sortOf_241 H)
  · have H := H.2 hc
    refine xt_iconst (v := 0) dX11_sortOf_59 (by decide) ?_
    refine xt_goto (tgt := 241) dX11_sortOf_60 (by decide) ?_
    exact xt_sub [] rfl (VX11_sortOf_241 H)
def DX11_sortOf_0 (h : Nat) (x0 : Nat) (M : Mem) (Q : Option Value → Mem → Prop) : Prop :=
  ok M x0 13 ∧ E h mdX11_isSaid [.ref x0, .int 3, .long 91] M (fun r M2 => mE M M2 → ∃ r3 : Int32, r = some (.int r3) ∧ (r3 = 0 → E h mdX11_isName [.ref x0] M2 (fun r M4 => mE M2 M4 → ∃ r5 : Int32, r = some (.int r5) ∧ (r5 = 0 → ∃ b6 : Nat, mR M4 x0 2 = some b6 ∧ ok M4 b6 21 ∧ vp_in (mI M4 x0 5) (mL M4 b6) ∧ (¬ (mAI M4 b6 (mI M4 x0 5 : Int32).toNatClampNeg) = 1 → DX11_sortOf_50 h 0 M4 Q) ∧
  ((mAI M4 b6 (mI M4 x0 5 : Int32).toNatClampNeg) = 1 → ∃ b8 : Nat, mR M4 x0 4 = some b8 ∧ ok M4 b8 23 ∧ vp_in (mI M4 x0 5) (mL M4 b8) ∧ DX11_sortOf_50 h (mAJ M4 b8 (mI M4 x0 5 : Int32).toNatClampNeg) M4 Q)) ∧
  (¬ (r5 = 0) → Q (some (.int 15)) M4))) ∧
  (¬ (r3 = 0) → Q (some (.int 16)) M2))
set_option maxRecDepth 20000 in
set_option maxHeartbeats 2000000 in
theorem VX11_sortOf_0 {h : Nat} {x0 : Nat} {M : Mem} {Q : Option Value → Mem → Prop} (H : DX11_sortOf_0 h x0 M Q) : T (h + 1) mdX11_sortOf 0 [(0, .ref x0)] [] M Q := by
  unfold DX11_sortOf_0 at H
  refine xt_aload_n (j := 0) dX11_sortOf_0 rfl rfl ?_
  refine xt_iconst (v := 3) dX11_sortOf_1 (by decide) ?_
  refine xt_ldc2 (v := 91) dX11_sortOf_2 (ctX11_552 rfl) ?_
  obtain ⟨ho1, H⟩ := H
  refine xt_callV (h2 := h) (as := [.int 3, .long 91]) (st := []) dX11_sortOf_5 (mlX11_373 rfl) rfl ho1.1 ⟨by rw [ho1.2]; rfl, by rw [ho1.2]; decide⟩ (by first | decide | (simp [Value.category]; done)) (Nat.le_refl _) H (fun r M2 HH hE => ?_)
  obtain ⟨r3, hr, H⟩ := HH hE
  subst hr
  have ho1 := ok_E ho1 hE
  show T _ _ _ _ [.int r3] _ _
  refine xt_if_eq (tgt := 14) dX11_sortOf_8 (by decide) (fun hc => ?_) (fun hc => ?_)
  · have H := H.1 hc
    refine xt_aload_n (j := 0) dX11_sortOf_14 rfl rfl ?_
    refine xt_callV (h2 := h) (as := []) (st := []) dX11_sortOf_15 (mlX11_468 rfl) rfl ho1.1 ⟨by rw [ho1.2]; rfl, by rw [ho1.2]; decide⟩ (by first | decide | (simp [Value.category]; done)) (Nat.le_refl _) H (fun r M4 HH hE => ?_)
    obtain ⟨r5, hr, H⟩ := HH hE
    subst hr
    have ho1 := ok_E ho1 hE
    show T _ _ _ _ [.int r5] _ _
    refine xt_if_eq (tgt := 24) dX11_sortOf_18 (by decide) (fun hc => ?_) (fun hc => ?_)
    · have H := H.1 hc
      refine xt_aload_n (j := 0) dX11_sortOf_24 rfl rfl ?_
      obtain ⟨b6, hb, H⟩ := H
      refine xt_getR dX11_sortOf_25 (flX11_13 rfl) ft_13_2 ho1.1 ho1.2 hb ?_
      refine xt_aload_n (j := 0) dX11_sortOf_28 rfl rfl ?_
      refine xt_getI dX11_sortOf_29 (flX11_366 rfl) ft_13_5 ho1.1 ho1.2 ?_
      obtain ⟨ho7, H⟩ := H
      obtain ⟨hi, H⟩ := H
      refine xt_iald dX11_sortOf_32 ho7.1 ho7.2 hi ?_
      refine xt_iconst (v := 1) dX11_sortOf_33 (by decide) ?_
      refine xt_icmp_ne (tgt := 49) dX11_sortOf_34 (by decide) (fun hc => ?_) (fun hc => ?_)
      · have H := H.1 hc
        refine xt_lconst (v := 0) dX11_sortOf_49 (by decide) ?_
        exact xt_sub [] rfl (VX11_sortOf_50 H)
      · have H := H.2 hc
        refine xt_aload_n (j := 0) dX11_sortOf_37 rfl rfl ?_
        obtain ⟨b8, hb, H⟩ := H
        refine xt_getR dX11_sortOf_38 (flX11_19 rfl) ft_13_4 ho1.1 ho1.2 hb ?_
        refine xt_aload_n (j := 0) dX11_sortOf_41 rfl rfl ?_
        refine xt_getI dX11_sortOf_42 (flX11_366 rfl) ft_13_5 ho1.1 ho1.2 ?_
        obtain ⟨ho9, H⟩ := H
        obtain ⟨hi, H⟩ := H
        refine xt_lald dX11_sortOf_45 ho9.1 ho9.2 hi ?_
        refine xt_goto (tgt := 50) dX11_sortOf_46 (by decide) ?_
        exact xt_sub [] rfl (VX11_sortOf_50 H)
    · have H := H.2 hc
      refine xt_bipush (v := 15) dX11_sortOf_21 (by decide) ?_
      exact xt_ireturn dX11_sortOf_23 rfl H
  · have H := H.2 hc
    refine xt_bipush (v := 16) dX11_sortOf_11 (by decide) ?_
    exact xt_ireturn dX11_sortOf_13 rfl H
theorem KX11_sortOf {h : Nat} {x0 : Nat} {M : Mem} {Q : Option Value → Mem → Prop} (H : DX11_sortOf_0 h x0 M Q) : E (h + 1) mdX11_sortOf [.ref x0] M Q := E.of (by decide) (Nat.le_of_ble_eq_true rfl) (fun _ _ _ => trivial) (VX11_sortOf_0 H)
def DX11_isOpening_42 (h : Nat) (s0 : Int32) (M : Mem) (Q : Option Value → Mem → Prop) : Prop :=
  (s0 = 0 ∨ s0 = 1) ∧ Q (some (.int s0)) M
set_option maxRecDepth 20000 in
set_option maxHeartbeats 2000000 in
theorem VX11_isOpening_42 {h : Nat} {s0 : Int32} {M : Mem} {Q : Option Value → Mem → Prop} (H : DX11_isOpening_42 h s0 M Q) : T (h + 1) mdX11_isOpening 42 [] [.int s0] M Q := by
  unfold DX11_isOpening_42 at H
  exact xt_zreturn dX11_isOpening_42 rfl H.1 H.2
def DX11_isOpening_37 (h : Nat) (M : Mem) (Q : Option Value → Mem → Prop) : Prop :=
  DX11_isOpening_42 h 1 M Q
set_option maxRecDepth 20000 in
set_option maxHeartbeats 2000000 in
theorem VX11_isOpening_37 {h : Nat} {M : Mem} {Q : Option Value → Mem → Prop} (H : DX11_isOpening_37 h  M Q) : T (h + 1) mdX11_isOpening 37 [] [] M Q := by
  unfold DX11_isOpening_37 at H
  refine xt_iconst (v := 1) dX11_isOpening_37 (by decide) ?_
  refine xt_goto (tgt := 42) dX11_isOpening_38 (by decide) ?_
  exact xt_sub [] rfl (VX11_isOpening_42 H)
def DX11_isOpening_0 (h : Nat) (x0 : Int32) (M : Mem) (Q : Option Value → Mem → Prop) : Prop :=
  (x0 = 5 → DX11_isOpening_37 h  M Q) ∧
  (¬ (x0 = 5) → (x0 = 6 → DX11_isOpening_37 h  M Q) ∧
  (¬ (x0 = 6) → E h mdX11_in [.long ((x0 : Int32).toInt64), .long 8, .long 12] M (fun r M1 => mE M M1 → ∃ r2 : Int32, r = some (.int r2) ∧ (¬ r2 = 0 → DX11_isOpening_37 h  M1 Q) ∧
  (r2 = 0 → (x0 = 14 → DX11_isOpening_37 h  M1 Q) ∧
  (¬ (x0 = 14) → (¬ x0 = 16 → DX11_isOpening_42 h 0 M1 Q) ∧
  (x0 = 16 → DX11_isOpening_37 h  M1 Q))))))
set_option maxRecDepth 20000 in
set_option maxHeartbeats 2000000 in
theorem VX11_isOpening_0 {h : Nat} {x0 : Int32} {M : Mem} {Q : Option Value → Mem → Prop} (H : DX11_isOpening_0 h x0 M Q) : T (h + 1) mdX11_isOpening 0 [(0, .int x0)] [] M Q := by
  unfold DX11_isOpening_0 at H
  refine xt_iload_n (j := 0) dX11_isOpening_0 rfl rfl ?_
  refine xt_iconst (v := 5) dX11_isOpening_1 (by decide) ?_
  refine xt_icmp_eq (tgt := 37) dX11_isOpening_2 (by decide) (fun hc => ?_) (fun hc => ?_)
  · have H := H.1 hc
    exact xt_sub [] rfl (VX11_isOpening_37 H)
  · have H := H.2 hc
    refine xt_iload_n (j := 0) dX11_isOpening_5 rfl rfl ?_
    refine xt_bipush (v := 6) dX11_isOpening_6 (by decide) ?_
    refine xt_icmp_eq (tgt := 37) dX11_isOpening_8 (by decide) (fun hc => ?_) (fun hc => ?_)
    · have H := H.1 hc
      exact xt_sub [] rfl (VX11_isOpening_37 H)
    · have H := H.2 hc
      refine xt_iload_n (j := 0) dX11_isOpening_11 rfl rfl ?_
      refine xt_i2l dX11_isOpening_12 ?_
      refine xt_ldc2 (v := 8) dX11_isOpening_13 (ctX11_554 rfl) ?_
      refine xt_ldc2 (v := 12) dX11_isOpening_16 (ctX11_556 rfl) ?_
      refine xt_callS (h2 := h) (as := [.long ((x0 : Int32).toInt64), .long 8, .long 12]) (st := []) dX11_isOpening_19 (mlX11_332 rfl) rfl (by first | decide | (simp [Value.category]; done)) (Nat.le_refl _) H (fun r M1 HH hE => ?_)
      obtain ⟨r2, hr, H⟩ := HH hE
      subst hr
      show T _ _ _ _ [.int r2] _ _
      refine xt_if_ne (tgt := 37) dX11_isOpening_22 (by decide) (fun hc => ?_) (fun hc => ?_)
      · have H := H.1 hc
        exact xt_sub [] rfl (VX11_isOpening_37 H)
      · have H := H.2 hc
        refine xt_iload_n (j := 0) dX11_isOpening_25 rfl rfl ?_
        refine xt_bipush (v := 14) dX11_isOpening_26 (by decide) ?_
        refine xt_icmp_eq (tgt := 37) dX11_isOpening_28 (by decide) (fun hc => ?_) (fun hc => ?_)
        · have H := H.1 hc
          exact xt_sub [] rfl (VX11_isOpening_37 H)
        · have H := H.2 hc
          refine xt_iload_n (j := 0) dX11_isOpening_31 rfl rfl ?_
          refine xt_bipush (v := 16) dX11_isOpening_32 (by decide) ?_
          refine xt_icmp_ne (tgt := 41) dX11_isOpening_34 (by decide) (fun hc => ?_) (fun hc => ?_)
          · have H := H.1 hc
            refine xt_iconst (v := 0) dX11_isOpening_41 (by decide) ?_
            exact xt_sub [] rfl (VX11_isOpening_42 H)
          · have H := H.2 hc
            exact xt_sub [] rfl (VX11_isOpening_37 H)
theorem KX11_isOpening {h : Nat} {x0 : Int32} {M : Mem} {Q : Option Value → Mem → Prop} (H : DX11_isOpening_0 h x0 M Q) : E (h + 1) mdX11_isOpening [.int x0] M Q := E.of (by decide) (Nat.le_of_ble_eq_true rfl) (fun _ _ _ => trivial) (VX11_isOpening_0 H)
def DX11_pausesOf_46 (h : Nat) (s0 : Int32) (M : Mem) (Q : Option Value → Mem → Prop) : Prop :=
  Q (some (.int s0)) M
set_option maxRecDepth 20000 in
set_option maxHeartbeats 2000000 in
theorem VX11_pausesOf_46 {h : Nat} {s0 : Int32} {M : Mem} {Q : Option Value → Mem → Prop} (H : DX11_pausesOf_46 h s0 M Q) : T (h + 1) mdX11_pausesOf 46 [] [.int s0] M Q := by
  unfold DX11_pausesOf_46 at H
  exact xt_ireturn dX11_pausesOf_46 rfl H
def DX11_pausesOf_41 (h : Nat) (M : Mem) (Q : Option Value → Mem → Prop) : Prop :=
  DX11_pausesOf_46 h 1 M Q
set_option maxRecDepth 20000 in
set_option maxHeartbeats 2000000 in
theorem VX11_pausesOf_41 {h : Nat} {M : Mem} {Q : Option Value → Mem → Prop} (H : DX11_pausesOf_41 h  M Q) : T (h + 1) mdX11_pausesOf 41 [] [] M Q := by
  unfold DX11_pausesOf_41 at H
  refine xt_iconst (v := 1) dX11_pausesOf_41 (by decide) ?_
  refine xt_goto (tgt := 46) dX11_pausesOf_42 (by decide) ?_
  exact xt_sub [] rfl (VX11_pausesOf_46 H)
def DX11_pausesOf_0 (h : Nat) (x0 : Int32) (M : Mem) (Q : Option Value → Mem → Prop) : Prop :=
  (¬ x0 = 11 → E h mdX11_in [.long ((x0 : Int32).toInt64), .long 1, .long 2] M (fun r M1 => mE M M1 → ∃ r2 : Int32, r = some (.int r2) ∧ (¬ r2 = 0 → DX11_pausesOf_41 h  M1 Q) ∧
  (r2 = 0 → (x0 = 4 → DX11_pausesOf_41 h  M1 Q) ∧
  (¬ (x0 = 4) → E h mdX11_in [.long ((x0 : Int32).toInt64), .long 7, .long 9] M1 (fun r M3 => mE M1 M3 → ∃ r4 : Int32, r = some (.int r4) ∧ (r4 = 0 → DX11_pausesOf_46 h 0 M3 Q) ∧
  (¬ (r4 = 0) → DX11_pausesOf_41 h  M3 Q)))))) ∧
  (x0 = 11 → DX11_pausesOf_46 h 3 M Q)
set_option maxRecDepth 20000 in
set_option maxHeartbeats 2000000 in
theorem VX11_pausesOf_0 {h : Nat} {x0 : Int32} {M : Mem} {Q : Option Value → Mem → Prop} (H : DX11_pausesOf_0 h x0 M Q) : T (h + 1) mdX11_pausesOf 0 [(0, .int x0)] [] M Q := by
  unfold DX11_pausesOf_0 at H
  refine xt_iload_n (j := 0) dX11_pausesOf_0 rfl rfl ?_
  refine xt_bipush (v := 11) dX11_pausesOf_1 (by decide) ?_
  refine xt_icmp_ne (tgt := 10) dX11_pausesOf_3 (by decide) (fun hc => ?_) (fun hc => ?_)
  · have H := H.1 hc
    refine xt_iload_n (j := 0) dX11_pausesOf_10 rfl rfl ?_
    refine xt_i2l dX11_pausesOf_11 ?_
    refine xt_lconst (v := 1) dX11_pausesOf_12 (by decide) ?_
    refine xt_ldc2 (v := 2) dX11_pausesOf_13 (ctX11_558 rfl) ?_
    refine xt_callS (h2 := h) (as := [.long ((x0 : Int32).toInt64), .long 1, .long 2]) (st := []) dX11_pausesOf_16 (mlX11_332 rfl) rfl (by first | decide | (simp [Value.category]; done)) (Nat.le_refl _) H (fun r M1 HH hE => ?_)
    obtain ⟨r2, hr, H⟩ := HH hE
    subst hr
    show T _ _ _ _ [.int r2] _ _
    refine xt_if_ne (tgt := 41) dX11_pausesOf_19 (by decide) (fun hc => ?_) (fun hc => ?_)
    · have H := H.1 hc
      exact xt_sub [] rfl (VX11_pausesOf_41 H)
    · have H := H.2 hc
      refine xt_iload_n (j := 0) dX11_pausesOf_22 rfl rfl ?_
      refine xt_iconst (v := 4) dX11_pausesOf_23 (by decide) ?_
      refine xt_icmp_eq (tgt := 41) dX11_pausesOf_24 (by decide) (fun hc => ?_) (fun hc => ?_)
      · have H := H.1 hc
        exact xt_sub [] rfl (VX11_pausesOf_41 H)
      · have H := H.2 hc
        refine xt_iload_n (j := 0) dX11_pausesOf_27 rfl rfl ?_
        refine xt_i2l dX11_pausesOf_28 ?_
        refine xt_ldc2 (v := 7) dX11_pausesOf_29 (ctX11_560 rfl) ?_
        refine xt_ldc2 (v := 9) dX11_pausesOf_32 (ctX11_562 rfl) ?_
        refine xt_callS (h2 := h) (as := [.long ((x0 : Int32).toInt64), .long 7, .long 9]) (st := []) dX11_pausesOf_35 (mlX11_332 rfl) rfl (by first | decide | (simp [Value.category]; done)) (Nat.le_refl _) H (fun r M3 HH hE => ?_)
        obtain ⟨r4, hr, H⟩ := HH hE
        subst hr
        show T _ _ _ _ [.int r4] _ _
        refine xt_if_eq (tgt := 45) dX11_pausesOf_38 (by decide) (fun hc => ?_) (fun hc => ?_)
        · have H := H.1 hc
          refine xt_iconst (v := 0) dX11_pausesOf_45 (by decide) ?_
          exact xt_sub [] rfl (VX11_pausesOf_46 H)
        · have H := H.2 hc
          exact xt_sub [] rfl (VX11_pausesOf_41 H)
  · have H := H.2 hc
    refine xt_iconst (v := 3) dX11_pausesOf_6 (by decide) ?_
    refine xt_goto (tgt := 46) dX11_pausesOf_7 (by decide) ?_
    exact xt_sub [] rfl (VX11_pausesOf_46 H)
theorem KX11_pausesOf {h : Nat} {x0 : Int32} {M : Mem} {Q : Option Value → Mem → Prop} (H : DX11_pausesOf_0 h x0 M Q) : E (h + 1) mdX11_pausesOf [.int x0] M Q := E.of (by decide) (Nat.le_of_ble_eq_true rfl) (fun _ _ _ => trivial) (VX11_pausesOf_0 H)
def DX11_newSeq_0 (h : Nat) (x0 : Nat) (M : Mem) (Q : Option Value → Mem → Prop) : Prop :=
  ok M x0 13 ∧ ∀ M2 : Mem, M2 = wI M x0 53 ((mI M x0 53) + 1) →
  ∃ b3 : Nat, mR M2 x0 54 = some b3 ∧ ok M2 b3 21 ∧ vp_in (mI M x0 53) (mL M2 b3) ∧ ∀ M5 : Mem, M5 = wAI M2 b3 (mI M x0 53 : Int32).toNatClampNeg (-1) →
  ∃ b6 : Nat, mR M5 x0 55 = some b6 ∧ ok M5 b6 21 ∧ vp_in (mI M x0 53) (mL M5 b6) ∧ ∀ M8 : Mem, M8 = wAI M5 b6 (mI M x0 53 : Int32).toNatClampNeg (-1) →
  ∃ b9 : Nat, mR M8 x0 56 = some b9 ∧ ok M8 b9 21 ∧ vp_in (mI M x0 53) (mL M8 b9) ∧ ∀ M11 : Mem, M11 = wAI M8 b9 (mI M x0 53 : Int32).toNatClampNeg (-1) →
  Q (some (.int (mI M x0 53))) M11
set_option maxRecDepth 20000 in
set_option maxHeartbeats 2000000 in
theorem VX11_newSeq_0 {h : Nat} {x0 : Nat} {M : Mem} {Q : Option Value → Mem → Prop} (H : DX11_newSeq_0 h x0 M Q) : T (h + 1) mdX11_newSeq 0 [(0, .ref x0)] [] M Q := by
  unfold DX11_newSeq_0 at H
  refine xt_aload_n (j := 0) dX11_newSeq_0 rfl rfl ?_
  obtain ⟨ho1, H⟩ := H
  refine xt_getI dX11_newSeq_1 (flX11_564 rfl) ft_13_53 ho1.1 ho1.2 ?_
  refine xt_istore_n (lv' := [(1, .int (mI M x0 53)), (0, .ref x0)]) dX11_newSeq_4 rfl (by decide) rfl ?_
  refine xt_aload_n (j := 1) dX11_newSeq_5 rfl rfl ?_
  refine xt_dup dX11_newSeq_6 rfl ?_
  refine xt_getI dX11_newSeq_7 (flX11_564 rfl) ft_13_53 ho1.1 ho1.2 ?_
  refine xt_iconst (v := 1) dX11_newSeq_10 (by decide) ?_
  refine xt_iadd dX11_newSeq_11 ?_
  obtain ⟨M2, eM2⟩ : ∃ z, z = wI M x0 53 ((mI M x0 53) + 1) := ⟨_, rfl⟩
  have H := H _ eM2
  refine xt_putI dX11_newSeq_12 (flX11_564 rfl) ty_13_53 rfl ho1.1 ho1.2 ?_
  have ho1 : ok M2 x0 13 := by rw [eM2]; exact ho1
  rw [← eM2]
  refine xt_aload_n (j := 1) dX11_newSeq_15 rfl rfl ?_
  obtain ⟨b3, hb, H⟩ := H
  refine xt_getR dX11_newSeq_16 (flX11_141 rfl) ft_13_54 ho1.1 ho1.2 hb ?_
  refine xt_iload_n (j := 0) dX11_newSeq_19 rfl rfl ?_
  refine xt_iconst (v := -1) dX11_newSeq_20 (by decide) ?_
  obtain ⟨ho4, H⟩ := H
  obtain ⟨hi, H⟩ := H
  obtain ⟨M5, eM5⟩ : ∃ z, z = wAI M2 b3 (mI M x0 53 : Int32).toNatClampNeg (-1) := ⟨_, rfl⟩
  have H := H _ eM5
  refine xt_iast dX11_newSeq_21 ho4.1 ho4.2 hi ?_
  have ho1 : ok M5 x0 13 := by rw [eM5]; exact ho1
  rw [← eM5]
  refine xt_aload_n (j := 1) dX11_newSeq_22 rfl rfl ?_
  obtain ⟨b6, hb, H⟩ := H
  refine xt_getR dX11_newSeq_23 (flX11_144 rfl) ft_13_55 ho1.1 ho1.2 hb ?_
  refine xt_iload_n (j := 0) dX11_newSeq_26 rfl rfl ?_
  refine xt_iconst (v := -1) dX11_newSeq_27 (by decide) ?_
  obtain ⟨ho7, H⟩ := H
  obtain ⟨hi, H⟩ := H
  obtain ⟨M8, eM8⟩ : ∃ z, z = wAI M5 b6 (mI M x0 53 : Int32).toNatClampNeg (-1) := ⟨_, rfl⟩
  have H := H _ eM8
  refine xt_iast dX11_newSeq_28 ho7.1 ho7.2 hi ?_
  have ho1 : ok M8 x0 13 := by rw [eM8]; exact ho1
  rw [← eM8]
  refine xt_aload_n (j := 1) dX11_newSeq_29 rfl rfl ?_
  obtain ⟨b9, hb, H⟩ := H
  refine xt_getR dX11_newSeq_30 (flX11_147 rfl) ft_13_56 ho1.1 ho1.2 hb ?_
  refine xt_iload_n (j := 0) dX11_newSeq_33 rfl rfl ?_
  refine xt_iconst (v := -1) dX11_newSeq_34 (by decide) ?_
  obtain ⟨ho10, H⟩ := H
  obtain ⟨hi, H⟩ := H
  obtain ⟨M11, eM11⟩ : ∃ z, z = wAI M8 b9 (mI M x0 53 : Int32).toNatClampNeg (-1) := ⟨_, rfl⟩
  have H := H _ eM11
  refine xt_iast dX11_newSeq_35 ho10.1 ho10.2 hi ?_
  have ho1 : ok M11 x0 13 := by rw [eM11]; exact ho1
  rw [← eM11]
  refine xt_iload_n (j := 0) dX11_newSeq_36 rfl rfl ?_
  exact xt_ireturn dX11_newSeq_37 rfl H
theorem KX11_newSeq {h : Nat} {x0 : Nat} {M : Mem} {Q : Option Value → Mem → Prop} (H : DX11_newSeq_0 h x0 M Q) : E (h + 1) mdX11_newSeq [.ref x0] M Q := E.of (by decide) (Nat.le_of_ble_eq_true rfl) (fun _ _ _ => trivial) (VX11_newSeq_0 H)
def DX11_beginPart_114 (h : Nat) (x0 : Nat) (M : Mem) (Q : Option Value → Mem → Prop) : Prop :=
  ok M x0 13 ∧ ∃ b2 : Nat, mR M x0 3 = some b2 ∧ ok M b2 21 ∧ vp_in (mI M x0 5) (mL M b2) ∧ E h mdX11_fails [.ref x0, .int 6, .int (mAI M b2 (mI M x0 5 : Int32).toNatClampNeg)] M (fun r M4 => mE M M4 → r = none ∧ Q (some (.int (-1))) M4)
set_option maxRecDepth 20000 in
set_option maxHeartbeats 2000000 in
theorem VX11_beginPart_114 {h : Nat} {x0 : Nat} {M : Mem} {Q : Option Value → Mem → Prop} (H : DX11_beginPart_114 h x0 M Q) : T (h + 1) mdX11_beginPart 114 [(0, .ref x0)] [] M Q := by
  unfold DX11_beginPart_114 at H
  refine xt_aload_n (j := 0) dX11_beginPart_114 rfl rfl ?_
  refine xt_bipush (v := 6) dX11_beginPart_115 (by decide) ?_
  refine xt_aload_n (j := 0) dX11_beginPart_117 rfl rfl ?_
  obtain ⟨ho1, H⟩ := H
  obtain ⟨b2, hb, H⟩ := H
  refine xt_getR dX11_beginPart_118 (flX11_16 rfl) ft_13_3 ho1.1 ho1.2 hb ?_
  refine xt_aload_n (j := 0) dX11_beginPart_121 rfl rfl ?_
  refine xt_getI dX11_beginPart_122 (flX11_366 rfl) ft_13_5 ho1.1 ho1.2 ?_
  obtain ⟨ho3, H⟩ := H
  obtain ⟨hi, H⟩ := H
  refine xt_iald dX11_beginPart_125 ho3.1 ho3.2 hi ?_
  refine xt_callV (h2 := h) (as := [.int 6, .int (mAI M b2 (mI M x0 5 : Int32).toNatClampNeg)]) (st := []) dX11_beginPart_126 (mlX11_369 rfl) rfl ho1.1 ⟨by rw [ho1.2]; rfl, by rw [ho1.2]; decide⟩ (by first | decide | (simp [Value.category]; done)) (Nat.le_refl _) H (fun r M4 HH hE => ?_)
  obtain ⟨hr, H⟩ := HH hE
  subst hr
  have ho1 := ok_E ho1 hE
  show T _ _ _ _ [] _ _
  refine xt_iconst (v := -1) dX11_beginPart_129 (by decide) ?_
  exact xt_ireturn dX11_beginPart_130 rfl H
def DX11_beginPart_392 (h : Nat) (x0 : Nat) (x1 : Int32) (x3 : Int32) (M : Mem) (Q : Option Value → Mem → Prop) : Prop :=
  ok M x0 13 ∧ ∃ b2 : Nat, mR M x0 55 = some b2 ∧ ok M b2 21 ∧ vp_in x1 (mL M b2) ∧ ∀ M4 : Mem, M4 = wAI M b2 (x1 : Int32).toNatClampNeg x3 →
  E h mdX11_take [.ref x0] M4 (fun r M5 => mE M4 M5 → r = none ∧ Q (some (.int x3)) M5)
set_option maxRecDepth 20000 in
set_option maxHeartbeats 2000000 in
theorem VX11_beginPart_392 {h : Nat} {x0 : Nat} {x1 : Int32} {x3 : Int32} {M : Mem} {Q : Option Value → Mem → Prop} (H : DX11_beginPart_392 h x0 x1 x3 M Q) : T (h + 1) mdX11_beginPart 392 [(0, .ref x0), (1, .int x1), (3, .int x3)] [] M Q := by
  unfold DX11_beginPart_392 at H
  refine xt_aload_n (j := 0) dX11_beginPart_392 rfl rfl ?_
  obtain ⟨ho1, H⟩ := H
  obtain ⟨b2, hb, H⟩ := H
  refine xt_getR dX11_beginPart_393 (flX11_144 rfl) ft_13_55 ho1.1 ho1.2 hb ?_
  refine xt_iload_n (j := 1) dX11_beginPart_396 rfl rfl ?_
  refine xt_iload_n (j := 2) dX11_beginPart_397 rfl rfl ?_
  obtain ⟨ho3, H⟩ := H
  obtain ⟨hi, H⟩ := H
  obtain ⟨M4, eM4⟩ : ∃ z, z = wAI M b2 (x1 : Int32).toNatClampNeg x3 := ⟨_, rfl⟩
  have H := H _ eM4
  refine xt_iast dX11_beginPart_398 ho3.1 ho3.2 hi ?_
  have ho1 : ok M4 x0 13 := by rw [eM4]; exact ho1
  rw [← eM4]
  refine xt_aload_n (j := 0) dX11_beginPart_399 rfl rfl ?_
  refine xt_callV (h2 := h) (as := []) (st := []) dX11_beginPart_400 (mlX11_377 rfl) rfl ho1.1 ⟨by rw [ho1.2]; rfl, by rw [ho1.2]; decide⟩ (by first | decide | (simp [Value.category]; done)) (Nat.le_refl _) H (fun r M5 HH hE => ?_)
  obtain ⟨hr, H⟩ := HH hE
  subst hr
  have ho1 := ok_E ho1 hE
  show T _ _ _ _ [] _ _
  refine xt_iload_n (j := 2) dX11_beginPart_403 rfl rfl ?_
  exact xt_ireturn dX11_beginPart_404 rfl H
def DX11_beginPart_317 (h : Nat) (x0 : Nat) (x1 : Int32) (x3 : Int32) (s0 : Nat) (s1 : Int32) (s2 : Int32) (M : Mem) (Q : Option Value → Mem → Prop) : Prop :=
  ok M s0 21 ∧ vp_in s1 (mL M s0) ∧ ∀ M2 : Mem, M2 = wAI M s0 (s1 : Int32).toNatClampNeg s2 →
  ok M2 x0 13 ∧ ∃ b4 : Nat, mR M2 x0 41 = some b4 ∧ ok M2 b4 22 ∧ vp_in x3 (mL M2 b4) ∧ ∀ M6 : Mem, M6 = wAI M2 b4 (x3 : Int32).toNatClampNeg (vp_nar .boolean 0) →
  ∃ b7 : Nat, mR M6 x0 43 = some b7 ∧ ok M6 b7 21 ∧ vp_in x3 (mL M6 b7) ∧ ∀ M9 : Mem, M9 = wAI M6 b7 (x3 : Int32).toNatClampNeg (-1) →
  ∃ b10 : Nat, mR M9 x0 45 = some b10 ∧ ok M9 b10 21 ∧ vp_in x3 (mL M9 b10) ∧ ∀ M12 : Mem, M12 = wAI M9 b10 (x3 : Int32).toNatClampNeg (-1) →
  ∃ b13 : Nat, mR M12 x0 47 = some b13 ∧ ok M12 b13 21 ∧ vp_in x3 (mL M12 b13) ∧ ∀ M15 : Mem, M15 = wAI M12 b13 (x3 : Int32).toNatClampNeg (-1) →
  ∃ b16 : Nat, mR M15 x0 49 = some b16 ∧ ok M15 b16 21 ∧ vp_in x3 (mL M15 b16) ∧ ∀ M18 : Mem, M18 = wAI M15 b16 (x3 : Int32).toNatClampNeg (-1) →
  ∃ b19 : Nat, mR M18 x0 50 = some b19 ∧ ok M18 b19 21 ∧ vp_in x3 (mL M18 b19) ∧ ∀ M21 : Mem, M21 = wAI M18 b19 (x3 : Int32).toNatClampNeg (-1) →
  ∃ b22 : Nat, mR M21 x0 54 = some b22 ∧ ok M21 b22 21 ∧ vp_in x1 (mL M21 b22) ∧ (¬ (mAI M21 b22 (x1 : Int32).toNatClampNeg) = (-1) → ∃ b24 : Nat, mR M21 x0 50 = some b24 ∧ ∃ b25 : Nat, mR M21 x0 55 = some b25 ∧ ok M21 b25 21 ∧ vp_in x1 (mL M21 b25) ∧ ok M21 b24 21 ∧ vp_in (mAI M21 b25 (x1 : Int32).toNatClampNeg) (mL M21 b24) ∧ ∀ M28 : Mem, M28 = wAI M21 b24 (mAI M21 b25 (x1 : Int32).toNatClampNeg : Int32).toNatClampNeg x3 →
  DX11_beginPart_392 h x0 x1 x3 M28 Q) ∧
  ((mAI M21 b22 (x1 : Int32).toNatClampNeg) = (-1) → ∃ b29 : Nat, mR M21 x0 54 = some b29 ∧ ok M21 b29 21 ∧ vp_in x1 (mL M21 b29) ∧ ∀ M31 : Mem, M31 = wAI M21 b29 (x1 : Int32).toNatClampNeg x3 →
  DX11_beginPart_392 h x0 x1 x3 M31 Q)
set_option maxRecDepth 20000 in
set_option maxHeartbeats 2000000 in
theorem VX11_beginPart_317 {h : Nat} {x0 : Nat} {x1 : Int32} {x3 : Int32} {s0 : Nat} {s1 : Int32} {s2 : Int32} {M : Mem} {Q : Option Value → Mem → Prop} (H : DX11_beginPart_317 h x0 x1 x3 s0 s1 s2 M Q) : T (h + 1) mdX11_beginPart 317 [(0, .ref x0), (1, .int x1), (3, .int x3)] [.int s2, .int s1, .ref s0] M Q := by
  unfold DX11_beginPart_317 at H
  obtain ⟨ho1, H⟩ := H
  obtain ⟨hi, H⟩ := H
  obtain ⟨M2, eM2⟩ : ∃ z, z = wAI M s0 (s1 : Int32).toNatClampNeg s2 := ⟨_, rfl⟩
  have H := H _ eM2
  refine xt_iast dX11_beginPart_317 ho1.1 ho1.2 hi ?_
  rw [← eM2]
  refine xt_aload_n (j := 0) dX11_beginPart_318 rfl rfl ?_
  obtain ⟨ho3, H⟩ := H
  obtain ⟨b4, hb, H⟩ := H
  refine xt_getR dX11_beginPart_319 (flX11_105 rfl) ft_13_41 ho3.1 ho3.2 hb ?_
  refine xt_iload_n (j := 2) dX11_beginPart_322 rfl rfl ?_
  refine xt_iconst (v := 0) dX11_beginPart_323 (by decide) ?_
  obtain ⟨ho5, H⟩ := H
  obtain ⟨hi, H⟩ := H
  obtain ⟨M6, eM6⟩ : ∃ z, z = wAI M2 b4 (x3 : Int32).toNatClampNeg (vp_nar .boolean 0) := ⟨_, rfl⟩
  have H := H _ eM6
  refine xt_zast dX11_beginPart_324 ho5.1 ho5.2 hi ?_
  have ho3 : ok M6 x0 13 := by rw [eM6]; exact ho3
  rw [← eM6]
  refine xt_aload_n (j := 0) dX11_beginPart_325 rfl rfl ?_
  obtain ⟨b7, hb, H⟩ := H
  refine xt_getR dX11_beginPart_326 (flX11_111 rfl) ft_13_43 ho3.1 ho3.2 hb ?_
  refine xt_iload_n (j := 2) dX11_beginPart_329 rfl rfl ?_
  refine xt_iconst (v := -1) dX11_beginPart_330 (by decide) ?_
  obtain ⟨ho8, H⟩ := H
  obtain ⟨hi, H⟩ := H
  obtain ⟨M9, eM9⟩ : ∃ z, z = wAI M6 b7 (x3 : Int32).toNatClampNeg (-1) := ⟨_, rfl⟩
  have H := H _ eM9
  refine xt_iast dX11_beginPart_331 ho8.1 ho8.2 hi ?_
  have ho3 : ok M9 x0 13 := by rw [eM9]; exact ho3
  rw [← eM9]
  refine xt_aload_n (j := 0) dX11_beginPart_332 rfl rfl ?_
  obtain ⟨b10, hb, H⟩ := H
  refine xt_getR dX11_beginPart_333 (flX11_117 rfl) ft_13_45 ho3.1 ho3.2 hb ?_
  refine xt_iload_n (j := 2) dX11_beginPart_336 rfl rfl ?_
  refine xt_iconst (v := -1) dX11_beginPart_337 (by decide) ?_
  obtain ⟨ho11, H⟩ := H
  obtain ⟨hi, H⟩ := H
  obtain ⟨M12, eM12⟩ : ∃ z, z = wAI M9 b10 (x3 : Int32).toNatClampNeg (-1) := ⟨_, rfl⟩
  have H := H _ eM12
  refine xt_iast dX11_beginPart_338 ho11.1 ho11.2 hi ?_
  have ho3 : ok M12 x0 13 := by rw [eM12]; exact ho3
  rw [← eM12]
  refine xt_aload_n (j := 0) dX11_beginPart_339 rfl rfl ?_
  obtain ⟨b13, hb, H⟩ := H
  refine xt_getR dX11_beginPart_340 (flX11_123 rfl) ft_13_47 ho3.1 ho3.2 hb ?_
  refine xt_iload_n (j := 2) dX11_beginPart_343 rfl rfl ?_
  refine xt_iconst (v := -1) dX11_beginPart_344 (by decide) ?_
  obtain ⟨ho14, H⟩ := H
  obtain ⟨hi, H⟩ := H
  obtain ⟨M15, eM15⟩ : ∃ z, z = wAI M12 b13 (x3 : Int32).toNatClampNeg (-1) := ⟨_, rfl⟩
  have H := H _ eM15
  refine xt_iast dX11_beginPart_345 ho14.1 ho14.2 hi ?_
  have ho3 : ok M15 x0 13 := by rw [eM15]; exact ho3
  rw [← eM15]
  refine xt_aload_n (j := 0) dX11_beginPart_346 rfl rfl ?_
  obtain ⟨b16, hb, H⟩ := H
  refine xt_getR dX11_beginPart_347 (flX11_129 rfl) ft_13_49 ho3.1 ho3.2 hb ?_
  refine xt_iload_n (j := 2) dX11_beginPart_350 rfl rfl ?_
  refine xt_iconst (v := -1) dX11_beginPart_351 (by decide) ?_
  obtain ⟨ho17, H⟩ := H
  obtain ⟨hi, H⟩ := H
  obtain ⟨M18, eM18⟩ : ∃ z, z = wAI M15 b16 (x3 : Int32).toNatClampNeg (-1) := ⟨_, rfl⟩
  have H := H _ eM18
  refine xt_iast dX11_beginPart_352 ho17.1 ho17.2 hi ?_
  have ho3 : ok M18 x0 13 := by rw [eM18]; exact ho3
  rw [← eM18]
  refine xt_aload_n (j := 0) dX11_beginPart_353 rfl rfl ?_
  obtain ⟨b19, hb, H⟩ := H
  refine xt_getR dX11_beginPart_354 (flX11_132 rfl) ft_13_50 ho3.1 ho3.2 hb ?_
  refine xt_iload_n (j := 2) dX11_beginPart_357 rfl rfl ?_
  refine xt_iconst (v := -1) dX11_beginPart_358 (by decide) ?_
  obtain ⟨ho20, H⟩ := H
  obtain ⟨hi, H⟩ := H
  obtain ⟨M21, eM21⟩ : ∃ z, z = wAI M18 b19 (x3 : Int32).toNatClampNeg (-1) := ⟨_, rfl⟩
  have H := H _ eM21
  refine xt_iast dX11_beginPart_359 ho20.1 ho20.2 hi ?_
  have ho3 : ok M21 x0 13 := by rw [eM21]; exact ho3
  rw [← eM21]
  refine xt_aload_n (j := 0) dX11_beginPart_360 rfl rfl ?_
  obtain ⟨b22, hb, H⟩ := H
  refine xt_getR dX11_beginPart_361 (flX11_141 rfl) ft_13_54 ho3.1 ho3.2 hb ?_
  refine xt_iload_n (j := 1) dX11_beginPart_364 rfl rfl ?_
  obtain ⟨ho23, H⟩ := H
  obtain ⟨hi, H⟩ := H
  refine xt_iald dX11_beginPart_365 ho23.1 ho23.2 hi ?_
  refine xt_iconst (v := -1) dX11_beginPart_366 (by decide) ?_
  refine xt_icmp_ne (tgt := 380) dX11_beginPart_367 (by decide) (fun hc => ?_) (fun hc => ?_)
  · have H := H.1 hc
    refine xt_aload_n (j := 0) dX11_beginPart_380 rfl rfl ?_
    obtain ⟨b24, hb, H⟩ := H
    refine xt_getR dX11_beginPart_381 (flX11_132 rfl) ft_13_50 ho3.1 ho3.2 hb ?_
    refine xt_aload_n (j := 0) dX11_beginPart_384 rfl rfl ?_
    obtain ⟨b25, hb, H⟩ := H
    refine xt_getR dX11_beginPart_385 (flX11_144 rfl) ft_13_55 ho3.1 ho3.2 hb ?_
    refine xt_iload_n (j := 1) dX11_beginPart_388 rfl rfl ?_
    obtain ⟨ho26, H⟩ := H
    obtain ⟨hi, H⟩ := H
    refine xt_iald dX11_beginPart_389 ho26.1 ho26.2 hi ?_
    refine xt_iload_n (j := 2) dX11_beginPart_390 rfl rfl ?_
    obtain ⟨ho27, H⟩ := H
    obtain ⟨hi, H⟩ := H
    obtain ⟨M28, eM28⟩ : ∃ z, z = wAI M21 b24 (mAI M21 b25 (x1 : Int32).toNatClampNeg : Int32).toNatClampNeg x3 := ⟨_, rfl⟩
    have H := H _ eM28
    refine xt_iast dX11_beginPart_391 ho27.1 ho27.2 hi ?_
    have ho3 : ok M28 x0 13 := by rw [eM28]; exact ho3
    rw [← eM28]
    exact xt_sub [0, 1, 2] rfl (VX11_beginPart_392 H)
  · have H := H.2 hc
    refine xt_aload_n (j := 0) dX11_beginPart_370 rfl rfl ?_
    obtain ⟨b29, hb, H⟩ := H
    refine xt_getR dX11_beginPart_371 (flX11_141 rfl) ft_13_54 ho3.1 ho3.2 hb ?_
    refine xt_iload_n (j := 1) dX11_beginPart_374 rfl rfl ?_
    refine xt_iload_n (j := 2) dX11_beginPart_375 rfl rfl ?_
    obtain ⟨ho30, H⟩ := H
    obtain ⟨hi, H⟩ := H
    obtain ⟨M31, eM31⟩ : ∃ z, z = wAI M21 b29 (x1 : Int32).toNatClampNeg x3 := ⟨_, rfl⟩
    have H := H _ eM31
    refine xt_iast dX11_beginPart_376 ho30.1 ho30.2 hi ?_
    have ho3 : ok M31 x0 13 := by rw [eM31]; exact ho3
    rw [← eM31]
    refine xt_goto (tgt := 392) dX11_beginPart_377 (by decide) ?_
    exact xt_sub [0, 1, 2] rfl (VX11_beginPart_392 H)
def DX11_beginPart_266 (h : Nat) (x0 : Nat) (x1 : Int32) (x2 : Int32) (x3 : Int32) (s0 : Nat) (s1 : Int32) (s2 : Int32) (M : Mem) (Q : Option Value → Mem → Prop) : Prop :=
  ok M s0 21 ∧ vp_in s1 (mL M s0) ∧ ∀ M2 : Mem, M2 = wAI M s0 (s1 : Int32).toNatClampNeg s2 →
  ok M2 x0 13 ∧ ∃ b4 : Nat, mR M2 x0 38 = some b4 ∧ ok M2 b4 21 ∧ vp_in x3 (mL M2 b4) ∧ ∀ M6 : Mem, M6 = wAI M2 b4 (x3 : Int32).toNatClampNeg x2 →
  ∃ b7 : Nat, mR M6 x0 39 = some b7 ∧ ∃ b8 : Nat, mR M6 x0 3 = some b8 ∧ ok M6 b8 21 ∧ vp_in (mI M6 x0 5) (mL M6 b8) ∧ ok M6 b7 21 ∧ vp_in x3 (mL M6 b7) ∧ ∀ M11 : Mem, M11 = wAI M6 b7 (x3 : Int32).toNatClampNeg (mAI M6 b8 (mI M6 x0 5 : Int32).toNatClampNeg) →
  ∃ b12 : Nat, mR M11 x0 40 = some b12 ∧ (¬ x2 = 15 → DX11_beginPart_317 h x0 x1 x3 b12 x3 (-1) M11 Q) ∧
  (x2 = 15 → ∃ b13 : Nat, mR M11 x0 4 = some b13 ∧ ok M11 b13 23 ∧ vp_in (mI M11 x0 5) (mL M11 b13) ∧ E h mdX11_variableNamed [.ref x0, .long (mAJ M11 b13 (mI M11 x0 5 : Int32).toNatClampNeg)] M11 (fun r M15 => mE M11 M15 → ∃ r16 : Int32, r = some (.int r16) ∧ DX11_beginPart_317 h x0 x1 x3 b12 x3 r16 M15 Q))
set_option maxRecDepth 20000 in
set_option maxHeartbeats 2000000 in
theorem VX11_beginPart_266 {h : Nat} {x0 : Nat} {x1 : Int32} {x2 : Int32} {x3 : Int32} {s0 : Nat} {s1 : Int32} {s2 : Int32} {M : Mem} {Q : Option Value → Mem → Prop} (H : DX11_beginPart_266 h x0 x1 x2 x3 s0 s1 s2 M Q) : T (h + 1) mdX11_beginPart 266 [(0, .ref x0), (1, .int x1), (2, .int x2), (3, .int x3)] [.int s2, .int s1, .ref s0] M Q := by
  unfold DX11_beginPart_266 at H
  obtain ⟨ho1, H⟩ := H
  obtain ⟨hi, H⟩ := H
  obtain ⟨M2, eM2⟩ : ∃ z, z = wAI M s0 (s1 : Int32).toNatClampNeg s2 := ⟨_, rfl⟩
  have H := H _ eM2
  refine xt_iast dX11_beginPart_266 ho1.1 ho1.2 hi ?_
  rw [← eM2]
  refine xt_aload_n (j := 0) dX11_beginPart_267 rfl rfl ?_
  obtain ⟨ho3, H⟩ := H
  obtain ⟨b4, hb, H⟩ := H
  refine xt_getR dX11_beginPart_268 (flX11_96 rfl) ft_13_38 ho3.1 ho3.2 hb ?_
  refine xt_iload_n (j := 3) dX11_beginPart_271 rfl rfl ?_
  refine xt_iload_n (j := 2) dX11_beginPart_272 rfl rfl ?_
  obtain ⟨ho5, H⟩ := H
  obtain ⟨hi, H⟩ := H
  obtain ⟨M6, eM6⟩ : ∃ z, z = wAI M2 b4 (x3 : Int32).toNatClampNeg x2 := ⟨_, rfl⟩
  have H := H _ eM6
  refine xt_iast dX11_beginPart_273 ho5.1 ho5.2 hi ?_
  have ho3 : ok M6 x0 13 := by rw [eM6]; exact ho3
  rw [← eM6]
  refine xt_aload_n (j := 0) dX11_beginPart_274 rfl rfl ?_
  obtain ⟨b7, hb, H⟩ := H
  refine xt_getR dX11_beginPart_275 (flX11_99 rfl) ft_13_39 ho3.1 ho3.2 hb ?_
  refine xt_iload_n (j := 3) dX11_beginPart_278 rfl rfl ?_
  refine xt_aload_n (j := 0) dX11_beginPart_279 rfl rfl ?_
  obtain ⟨b8, hb, H⟩ := H
  refine xt_getR dX11_beginPart_280 (flX11_16 rfl) ft_13_3 ho3.1 ho3.2 hb ?_
  refine xt_aload_n (j := 0) dX11_beginPart_283 rfl rfl ?_
  refine xt_getI dX11_beginPart_284 (flX11_366 rfl) ft_13_5 ho3.1 ho3.2 ?_
  obtain ⟨ho9, H⟩ := H
  obtain ⟨hi, H⟩ := H
  refine xt_iald dX11_beginPart_287 ho9.1 ho9.2 hi ?_
  obtain ⟨ho10, H⟩ := H
  obtain ⟨hi, H⟩ := H
  obtain ⟨M11, eM11⟩ : ∃ z, z = wAI M6 b7 (x3 : Int32).toNatClampNeg (mAI M6 b8 (mI M6 x0 5 : Int32).toNatClampNeg) := ⟨_, rfl⟩
  have H := H _ eM11
  refine xt_iast dX11_beginPart_288 ho10.1 ho10.2 hi ?_
  have ho3 : ok M11 x0 13 := by rw [eM11]; exact ho3
  rw [← eM11]
  refine xt_aload_n (j := 0) dX11_beginPart_289 rfl rfl ?_
  obtain ⟨b12, hb, H⟩ := H
  refine xt_getR dX11_beginPart_290 (flX11_102 rfl) ft_13_40 ho3.1 ho3.2 hb ?_
  refine xt_iload_n (j := 3) dX11_beginPart_293 rfl rfl ?_
  refine xt_iload_n (j := 2) dX11_beginPart_294 rfl rfl ?_
  refine xt_bipush (v := 15) dX11_beginPart_295 (by decide) ?_
  refine xt_icmp_ne (tgt := 316) dX11_beginPart_297 (by decide) (fun hc => ?_) (fun hc => ?_)
  · have H := H.1 hc
    refine xt_iconst (v := -1) dX11_beginPart_316 (by decide) ?_
    exact xt_sub [0, 1, 3] rfl (VX11_beginPart_317 H)
  · have H := H.2 hc
    refine xt_aload_n (j := 0) dX11_beginPart_300 rfl rfl ?_
    refine xt_aload_n (j := 0) dX11_beginPart_301 rfl rfl ?_
    obtain ⟨b13, hb, H⟩ := H
    refine xt_getR dX11_beginPart_302 (flX11_19 rfl) ft_13_4 ho3.1 ho3.2 hb ?_
    refine xt_aload_n (j := 0) dX11_beginPart_305 rfl rfl ?_
    refine xt_getI dX11_beginPart_306 (flX11_366 rfl) ft_13_5 ho3.1 ho3.2 ?_
    obtain ⟨ho14, H⟩ := H
    obtain ⟨hi, H⟩ := H
    refine xt_lald dX11_beginPart_309 ho14.1 ho14.2 hi ?_
    refine xt_callV (h2 := h) (as := [.long (mAJ M11 b13 (mI M11 x0 5 : Int32).toNatClampNeg)]) (st := [.int x3, .ref b12]) dX11_beginPart_310 (mlX11_475 rfl) rfl ho3.1 ⟨by rw [ho3.2]; rfl, by rw [ho3.2]; decide⟩ (by first | decide | (simp [Value.category]; done)) (Nat.le_refl _) H (fun r M15 HH hE => ?_)
    obtain ⟨r16, hr, H⟩ := HH hE
    subst hr
    have ho3 := ok_E ho3 hE
    show T _ _ _ _ [.int r16, .int x3, .ref b12] _ _
    refine xt_goto (tgt := 317) dX11_beginPart_313 (by decide) ?_
    exact xt_sub [0, 1, 3] rfl (VX11_beginPart_317 H)
def DX11_beginPart_218 (h : Nat) (x0 : Nat) (x1 : Int32) (x2 : Int32) (x3 : Int32) (s0 : Nat) (s1 : Int32) (s2 : Int32) (M : Mem) (Q : Option Value → Mem → Prop) : Prop :=
  ok M s0 13 ∧ ∀ M2 : Mem, M2 = wI M s0 33 (s1 + s2) →
  ok M2 x0 13 ∧ ∃ b4 : Nat, mR M2 x0 37 = some b4 ∧ ∃ b5 : Nat, mR M2 x0 37 = some b5 ∧ ok M2 b5 21 ∧ vp_in (mI M2 x0 19) (mL M2 b5) ∧ (((mI M2 x0 60) + 1) ≤ (mAI M2 b5 (mI M2 x0 19 : Int32).toNatClampNeg) → ∃ b7 : Nat, mR M2 x0 37 = some b7 ∧ ok M2 b7 21 ∧ vp_in (mI M2 x0 19) (mL M2 b7) ∧ DX11_beginPart_266 h x0 x1 x2 x3 b4 (mI M2 x0 19) (mAI M2 b7 (mI M2 x0 19 : Int32).toNatClampNeg) M2 Q) ∧
  (¬ (((mI M2 x0 60) + 1) ≤ (mAI M2 b5 (mI M2 x0 19 : Int32).toNatClampNeg)) → DX11_beginPart_266 h x0 x1 x2 x3 b4 (mI M2 x0 19) ((mI M2 x0 60) + 1) M2 Q)
set_option maxRecDepth 20000 in
set_option maxHeartbeats 2000000 in
theorem VX11_beginPart_218 {h : Nat} {x0 : Nat} {x1 : Int32} {x2 : Int32} {x3 : Int32} {s0 : Nat} {s1 : Int32} {s2 : Int32} {M : Mem} {Q : Option Value → Mem → Prop} (H : DX11_beginPart_218 h x0 x1 x2 x3 s0 s1 s2 M Q) : T (h + 1) mdX11_beginPart 218 [(0, .ref x0), (1, .int x1), (2, .int x2), (3, .int x3)] [.int s2, .int s1, .ref s0] M Q := by
  unfold DX11_beginPart_218 at H
  refine xt_iadd dX11_beginPart_218 ?_
  obtain ⟨ho1, H⟩ := H
  obtain ⟨M2, eM2⟩ : ∃ z, z = wI M s0 33 (s1 + s2) := ⟨_, rfl⟩
  have H := H _ eM2
  refine xt_putI dX11_beginPart_219 (flX11_486 rfl) ty_13_33 rfl ho1.1 ho1.2 ?_
  rw [← eM2]
  refine xt_aload_n (j := 0) dX11_beginPart_222 rfl rfl ?_
  obtain ⟨ho3, H⟩ := H
  obtain ⟨b4, hb, H⟩ := H
  refine xt_getR dX11_beginPart_223 (flX11_93 rfl) ft_13_37 ho3.1 ho3.2 hb ?_
  refine xt_aload_n (j := 0) dX11_beginPart_226 rfl rfl ?_
  refine xt_getI dX11_beginPart_227 (flX11_450 rfl) ft_13_19 ho3.1 ho3.2 ?_
  refine xt_aload_n (j := 0) dX11_beginPart_230 rfl rfl ?_
  refine xt_getI dX11_beginPart_231 (flX11_576 rfl) ft_13_60 ho3.1 ho3.2 ?_
  refine xt_iconst (v := 1) dX11_beginPart_234 (by decide) ?_
  refine xt_iadd dX11_beginPart_235 ?_
  refine xt_aload_n (j := 0) dX11_beginPart_236 rfl rfl ?_
  obtain ⟨b5, hb, H⟩ := H
  refine xt_getR dX11_beginPart_237 (flX11_93 rfl) ft_13_37 ho3.1 ho3.2 hb ?_
  refine xt_aload_n (j := 0) dX11_beginPart_240 rfl rfl ?_
  refine xt_getI dX11_beginPart_241 (flX11_450 rfl) ft_13_19 ho3.1 ho3.2 ?_
  obtain ⟨ho6, H⟩ := H
  obtain ⟨hi, H⟩ := H
  refine xt_iald dX11_beginPart_244 ho6.1 ho6.2 hi ?_
  refine xt_icmp_le (tgt := 257) dX11_beginPart_245 (by decide) (fun hc => ?_) (fun hc => ?_)
  · have H := H.1 hc
    refine xt_aload_n (j := 0) dX11_beginPart_257 rfl rfl ?_
    obtain ⟨b7, hb, H⟩ := H
    refine xt_getR dX11_beginPart_258 (flX11_93 rfl) ft_13_37 ho3.1 ho3.2 hb ?_
    refine xt_aload_n (j := 0) dX11_beginPart_261 rfl rfl ?_
    refine xt_getI dX11_beginPart_262 (flX11_450 rfl) ft_13_19 ho3.1 ho3.2 ?_
    obtain ⟨ho8, H⟩ := H
    obtain ⟨hi, H⟩ := H
    refine xt_iald dX11_beginPart_265 ho8.1 ho8.2 hi ?_
    exact xt_sub [0, 1, 2, 3] rfl (VX11_beginPart_266 H)
  · have H := H.2 hc
    refine xt_aload_n (j := 0) dX11_beginPart_248 rfl rfl ?_
    refine xt_getI dX11_beginPart_249 (flX11_576 rfl) ft_13_60 ho3.1 ho3.2 ?_
    refine xt_iconst (v := 1) dX11_beginPart_252 (by decide) ?_
    refine xt_iadd dX11_beginPart_253 ?_
    refine xt_goto (tgt := 266) dX11_beginPart_254 (by decide) ?_
    exact xt_sub [0, 1, 2, 3] rfl (VX11_beginPart_266 H)
def DX11_beginPart_199 (h : Nat) (x0 : Nat) (x1 : Int32) (x2 : Int32) (x3 : Int32) (s0 : Nat) (s1 : Int32) (s2 : Int32) (s3 : Int32) (M : Mem) (Q : Option Value → Mem → Prop) : Prop :=
  ok M s0 21 ∧ vp_in s1 (mL M s0) ∧ ∀ M2 : Mem, M2 = wAI M s0 (s1 : Int32).toNatClampNeg (s2 + s3) →
  ok M2 x0 13 ∧ E h mdX11_isOpening [.int x2] M2 (fun r M4 => mE M2 M4 → ∃ r5 : Int32, r = some (.int r5) ∧ (r5 = 0 → DX11_beginPart_218 h x0 x1 x2 x3 x0 (mI M2 x0 33) 0 M4 Q) ∧
  (¬ (r5 = 0) → DX11_beginPart_218 h x0 x1 x2 x3 x0 (mI M2 x0 33) 1 M4 Q))
set_option maxRecDepth 20000 in
set_option maxHeartbeats 2000000 in
theorem VX11_beginPart_199 {h : Nat} {x0 : Nat} {x1 : Int32} {x2 : Int32} {x3 : Int32} {s0 : Nat} {s1 : Int32} {s2 : Int32} {s3 : Int32} {M : Mem} {Q : Option Value → Mem → Prop} (H : DX11_beginPart_199 h x0 x1 x2 x3 s0 s1 s2 s3 M Q) : T (h + 1) mdX11_beginPart 199 [(0, .ref x0), (1, .int x1), (2, .int x2), (3, .int x3)] [.int s3, .int s2, .int s1, .ref s0] M Q := by
  unfold DX11_beginPart_199 at H
  refine xt_iadd dX11_beginPart_199 ?_
  obtain ⟨ho1, H⟩ := H
  obtain ⟨hi, H⟩ := H
  obtain ⟨M2, eM2⟩ : ∃ z, z = wAI M s0 (s1 : Int32).toNatClampNeg (s2 + s3) := ⟨_, rfl⟩
  have H := H _ eM2
  refine xt_iast dX11_beginPart_200 ho1.1 ho1.2 hi ?_
  rw [← eM2]
  refine xt_aload_n (j := 0) dX11_beginPart_201 rfl rfl ?_
  refine xt_dup dX11_beginPart_202 rfl ?_
  obtain ⟨ho3, H⟩ := H
  refine xt_getI dX11_beginPart_203 (flX11_486 rfl) ft_13_33 ho3.1 ho3.2 ?_
  refine xt_iload_n (j := 2) dX11_beginPart_206 rfl rfl ?_
  refine xt_callS (h2 := h) (as := [.int x2]) (st := [.int (mI M2 x0 33), .ref x0]) dX11_beginPart_207 (mlX11_573 rfl) rfl (by first | decide | (simp [Value.category]; done)) (Nat.le_refl _) H (fun r M4 HH hE => ?_)
  obtain ⟨r5, hr, H⟩ := HH hE
  subst hr
  have ho3 := ok_E ho3 hE
  show T _ _ _ _ [.int r5, .int (mI M2 x0 33), .ref x0] _ _
  refine xt_if_eq (tgt := 217) dX11_beginPart_210 (by decide) (fun hc => ?_) (fun hc => ?_)
  · have H := H.1 hc
    refine xt_iconst (v := 0) dX11_beginPart_217 (by decide) ?_
    exact xt_sub [0, 1, 2, 3] rfl (VX11_beginPart_218 H)
  · have H := H.2 hc
    refine xt_iconst (v := 1) dX11_beginPart_213 (by decide) ?_
    refine xt_goto (tgt := 218) dX11_beginPart_214 (by decide) ?_
    exact xt_sub [0, 1, 2, 3] rfl (VX11_beginPart_218 H)
def DX11_beginPart_131 (h : Nat) (x0 : Nat) (x1 : Int32) (x2 : Int32) (M : Mem) (Q : Option Value → Mem → Prop) : Prop :=
  ok M x0 13 ∧ ∃ b2 : Nat, mR M x0 34 = some b2 ∧ ok M b2 21 ∧ vp_in (mI M x0 19) (mL M b2) ∧ ∃ b4 : Nat, mR M x0 34 = some b4 ∧ ok M b4 21 ∧ vp_in (mI M x0 19) (mL M b4) ∧ vp_in (mI M x0 19) (mL M b4) ∧ ∀ M6 : Mem, M6 = wAI M b4 (mI M x0 19 : Int32).toNatClampNeg ((mAI M b4 (mI M x0 19 : Int32).toNatClampNeg) + 1) →
  ∃ b7 : Nat, mR M6 x0 35 = some b7 ∧ ok M6 b7 21 ∧ vp_in (mI M6 x0 19) (mL M6 b7) ∧ E h mdX11_pausesOf [.int x2] M6 (fun r M9 => mE M6 M9 → ∃ r10 : Int32, r = some (.int r10) ∧ vp_in (mI M6 x0 19) (mL M9 b7) ∧ ∀ M11 : Mem, M11 = wAI M9 b7 (mI M6 x0 19 : Int32).toNatClampNeg ((mAI M6 b7 (mI M6 x0 19 : Int32).toNatClampNeg) + r10) →
  ∃ b12 : Nat, mR M11 x0 36 = some b12 ∧ ok M11 b12 21 ∧ vp_in (mI M11 x0 19) (mL M11 b12) ∧ (¬ x2 = 14 → DX11_beginPart_199 h x0 x1 x2 ((40 * (mI M x0 19)) + (mAI M b2 (mI M x0 19 : Int32).toNatClampNeg)) b12 (mI M11 x0 19) (mAI M11 b12 (mI M11 x0 19 : Int32).toNatClampNeg) 0 M11 Q) ∧
  (x2 = 14 → DX11_beginPart_199 h x0 x1 x2 ((40 * (mI M x0 19)) + (mAI M b2 (mI M x0 19 : Int32).toNatClampNeg)) b12 (mI M11 x0 19) (mAI M11 b12 (mI M11 x0 19 : Int32).toNatClampNeg) 1 M11 Q))
set_option maxRecDepth 20000 in
set_option maxHeartbeats 2000000 in
theorem VX11_beginPart_131 {h : Nat} {x0 : Nat} {x1 : Int32} {x2 : Int32} {M : Mem} {Q : Option Value → Mem → Prop} (H : DX11_beginPart_131 h x0 x1 x2 M Q) : T (h + 1) mdX11_beginPart 131 [(0, .ref x0), (1, .int x1), (2, .int x2)] [] M Q := by
  unfold DX11_beginPart_131 at H
  refine xt_bipush (v := 40) dX11_beginPart_131 (by decide) ?_
  refine xt_aload_n (j := 0) dX11_beginPart_133 rfl rfl ?_
  obtain ⟨ho1, H⟩ := H
  refine xt_getI dX11_beginPart_134 (flX11_450 rfl) ft_13_19 ho1.1 ho1.2 ?_
  refine xt_imul dX11_beginPart_137 ?_
  refine xt_aload_n (j := 0) dX11_beginPart_138 rfl rfl ?_
  obtain ⟨b2, hb, H⟩ := H
  refine xt_getR dX11_beginPart_139 (flX11_84 rfl) ft_13_34 ho1.1 ho1.2 hb ?_
  refine xt_aload_n (j := 0) dX11_beginPart_142 rfl rfl ?_
  refine xt_getI dX11_beginPart_143 (flX11_450 rfl) ft_13_19 ho1.1 ho1.2 ?_
  obtain ⟨ho3, H⟩ := H
  obtain ⟨hi, H⟩ := H
  refine xt_iald dX11_beginPart_146 ho3.1 ho3.2 hi ?_
  refine xt_iadd dX11_beginPart_147 ?_
  refine xt_istore_n (lv' := [(3, .int ((40 * (mI M x0 19)) + (mAI M b2 (mI M x0 19 : Int32).toNatClampNeg))), (0, .ref x0), (1, .int x1), (2, .int x2)]) dX11_beginPart_148 rfl (by decide) rfl ?_
  refine xt_aload_n (j := 1) dX11_beginPart_149 rfl rfl ?_
  obtain ⟨b4, hb, H⟩ := H
  refine xt_getR dX11_beginPart_150 (flX11_84 rfl) ft_13_34 ho1.1 ho1.2 hb ?_
  refine xt_aload_n (j := 1) dX11_beginPart_153 rfl rfl ?_
  refine xt_getI dX11_beginPart_154 (flX11_450 rfl) ft_13_19 ho1.1 ho1.2 ?_
  refine xt_dup2 dX11_beginPart_157 rfl rfl ?_
  obtain ⟨ho5, H⟩ := H
  obtain ⟨hi, H⟩ := H
  refine xt_iald dX11_beginPart_158 ho5.1 ho5.2 hi ?_
  refine xt_iconst (v := 1) dX11_beginPart_159 (by decide) ?_
  refine xt_iadd dX11_beginPart_160 ?_
  obtain ⟨hi, H⟩ := H
  obtain ⟨M6, eM6⟩ : ∃ z, z = wAI M b4 (mI M x0 19 : Int32).toNatClampNeg ((mAI M b4 (mI M x0 19 : Int32).toNatClampNeg) + 1) := ⟨_, rfl⟩
  have H := H _ eM6
  refine xt_iast dX11_beginPart_161 ho5.1 ho5.2 hi ?_
  have ho1 : ok M6 x0 13 := by rw [eM6]; exact ho1
  rw [← eM6]
  refine xt_aload_n (j := 1) dX11_beginPart_162 rfl rfl ?_
  obtain ⟨b7, hb, H⟩ := H
  refine xt_getR dX11_beginPart_163 (flX11_87 rfl) ft_13_35 ho1.1 ho1.2 hb ?_
  refine xt_aload_n (j := 1) dX11_beginPart_166 rfl rfl ?_
  refine xt_getI dX11_beginPart_167 (flX11_450 rfl) ft_13_19 ho1.1 ho1.2 ?_
  refine xt_dup2 dX11_beginPart_170 rfl rfl ?_
  obtain ⟨ho8, H⟩ := H
  obtain ⟨hi, H⟩ := H
  refine xt_iald dX11_beginPart_171 ho8.1 ho8.2 hi ?_
  refine xt_iload_n (j := 3) dX11_beginPart_172 rfl rfl ?_
  refine xt_callS (h2 := h) (as := [.int x2]) (st := [.int (mAI M6 b7 (mI M6 x0 19 : Int32).toNatClampNeg), .int (mI M6 x0 19), .ref b7]) dX11_beginPart_173 (mlX11_570 rfl) rfl (by first | decide | (simp [Value.category]; done)) (Nat.le_refl _) H (fun r M9 HH hE => ?_)
  obtain ⟨r10, hr, H⟩ := HH hE
  subst hr
  have ho1 := ok_E ho1 hE
  have ho8 := ok_E ho8 hE
  show T _ _ _ _ [.int r10, .int (mAI M6 b7 (mI M6 x0 19 : Int32).toNatClampNeg), .int (mI M6 x0 19), .ref b7] _ _
  refine xt_iadd dX11_beginPart_176 ?_
  obtain ⟨hi, H⟩ := H
  obtain ⟨M11, eM11⟩ : ∃ z, z = wAI M9 b7 (mI M6 x0 19 : Int32).toNatClampNeg ((mAI M6 b7 (mI M6 x0 19 : Int32).toNatClampNeg) + r10) := ⟨_, rfl⟩
  have H := H _ eM11
  refine xt_iast dX11_beginPart_177 ho8.1 ho8.2 hi ?_
  have ho1 : ok M11 x0 13 := by rw [eM11]; exact ho1
  rw [← eM11]
  refine xt_aload_n (j := 1) dX11_beginPart_178 rfl rfl ?_
  obtain ⟨b12, hb, H⟩ := H
  refine xt_getR dX11_beginPart_179 (flX11_90 rfl) ft_13_36 ho1.1 ho1.2 hb ?_
  refine xt_aload_n (j := 1) dX11_beginPart_182 rfl rfl ?_
  refine xt_getI dX11_beginPart_183 (flX11_450 rfl) ft_13_19 ho1.1 ho1.2 ?_
  refine xt_dup2 dX11_beginPart_186 rfl rfl ?_
  obtain ⟨ho13, H⟩ := H
  obtain ⟨hi, H⟩ := H
  refine xt_iald dX11_beginPart_187 ho13.1 ho13.2 hi ?_
  refine xt_iload_n (j := 3) dX11_beginPart_188 rfl rfl ?_
  refine xt_bipush (v := 14) dX11_beginPart_189 (by decide) ?_
  refine xt_icmp_ne (tgt := 198) dX11_beginPart_191 (by decide) (fun hc => ?_) (fun hc => ?_)
  · have H := H.1 hc
    refine xt_iconst (v := 0) dX11_beginPart_198 (by decide) ?_
    exact xt_sub [1, 2, 3, 0] rfl (VX11_beginPart_199 H)
  · have H := H.2 hc
    refine xt_iconst (v := 1) dX11_beginPart_194 (by decide) ?_
    refine xt_goto (tgt := 199) dX11_beginPart_195 (by decide) ?_
    exact xt_sub [1, 2, 3, 0] rfl (VX11_beginPart_199 H)
def DX11_beginPart_65 (h : Nat) (x0 : Nat) (x1 : Int32) (x2 : Int32) (M : Mem) (Q : Option Value → Mem → Prop) : Prop :=
  ok M x0 13 ∧ ∃ b2 : Nat, mR M x0 34 = some b2 ∧ ok M b2 21 ∧ vp_in (mI M x0 19) (mL M b2) ∧ ((mAI M b2 (mI M x0 19 : Int32).toNatClampNeg) = 40 → DX11_beginPart_114 h x0 M Q) ∧
  (¬ ((mAI M b2 (mI M x0 19 : Int32).toNatClampNeg) = 40) → ∃ b4 : Nat, mR M x0 35 = some b4 ∧ ok M b4 21 ∧ vp_in (mI M x0 19) (mL M b4) ∧ E h mdX11_pausesOf [.int x2] M (fun r M6 => mE M M6 → ∃ r7 : Int32, r = some (.int r7) ∧ (24 < ((mAI M b4 (mI M x0 19 : Int32).toNatClampNeg) + r7) → DX11_beginPart_114 h x0 M6 Q) ∧
  (¬ (24 < ((mAI M b4 (mI M x0 19 : Int32).toNatClampNeg) + r7)) → E h mdX11_isOpening [.int x2] M6 (fun r M8 => mE M6 M8 → ∃ r9 : Int32, r = some (.int r9) ∧ (r9 = 0 → DX11_beginPart_131 h x0 x1 x2 M8 Q) ∧
  (¬ (r9 = 0) → (¬ (mI M8 x0 33) = 15 → DX11_beginPart_131 h x0 x1 x2 M8 Q) ∧
  ((mI M8 x0 33) = 15 → DX11_beginPart_114 h x0 M8 Q))))))
set_option maxRecDepth 20000 in
set_option maxHeartbeats 2000000 in
theorem VX11_beginPart_65 {h : Nat} {x0 : Nat} {x1 : Int32} {x2 : Int32} {M : Mem} {Q : Option Value → Mem → Prop} (H : DX11_beginPart_65 h x0 x1 x2 M Q) : T (h + 1) mdX11_beginPart 65 [(0, .ref x0), (1, .int x1), (2, .int x2)] [] M Q := by
  unfold DX11_beginPart_65 at H
  refine xt_aload_n (j := 0) dX11_beginPart_65 rfl rfl ?_
  obtain ⟨ho1, H⟩ := H
  obtain ⟨b2, hb, H⟩ := H
  refine xt_getR dX11_beginPart_66 (flX11_84 rfl) ft_13_34 ho1.1 ho1.2 hb ?_
  refine xt_aload_n (j := 0) dX11_beginPart_69 rfl rfl ?_
  refine xt_getI dX11_beginPart_70 (flX11_450 rfl) ft_13_19 ho1.1 ho1.2 ?_
  obtain ⟨ho3, H⟩ := H
  obtain ⟨hi, H⟩ := H
  refine xt_iald dX11_beginPart_73 ho3.1 ho3.2 hi ?_
  refine xt_bipush (v := 40) dX11_beginPart_74 (by decide) ?_
  refine xt_icmp_eq (tgt := 114) dX11_beginPart_76 (by decide) (fun hc => ?_) (fun hc => ?_)
  · have H := H.1 hc
    exact xt_sub [0] rfl (VX11_beginPart_114 H)
  · have H := H.2 hc
    refine xt_aload_n (j := 0) dX11_beginPart_79 rfl rfl ?_
    obtain ⟨b4, hb, H⟩ := H
    refine xt_getR dX11_beginPart_80 (flX11_87 rfl) ft_13_35 ho1.1 ho1.2 hb ?_
    refine xt_aload_n (j := 0) dX11_beginPart_83 rfl rfl ?_
    refine xt_getI dX11_beginPart_84 (flX11_450 rfl) ft_13_19 ho1.1 ho1.2 ?_
    obtain ⟨ho5, H⟩ := H
    obtain ⟨hi, H⟩ := H
    refine xt_iald dX11_beginPart_87 ho5.1 ho5.2 hi ?_
    refine xt_iload_n (j := 2) dX11_beginPart_88 rfl rfl ?_
    refine xt_callS (h2 := h) (as := [.int x2]) (st := [.int (mAI M b4 (mI M x0 19 : Int32).toNatClampNeg)]) dX11_beginPart_89 (mlX11_570 rfl) rfl (by first | decide | (simp [Value.category]; done)) (Nat.le_refl _) H (fun r M6 HH hE => ?_)
    obtain ⟨r7, hr, H⟩ := HH hE
    subst hr
    have ho1 := ok_E ho1 hE
    show T _ _ _ _ [.int r7, .int (mAI M b4 (mI M x0 19 : Int32).toNatClampNeg)] _ _
    refine xt_iadd dX11_beginPart_92 ?_
    refine xt_bipush (v := 24) dX11_beginPart_93 (by decide) ?_
    refine xt_icmp_gt (tgt := 114) dX11_beginPart_95 (by decide) (fun hc => ?_) (fun hc => ?_)
    · have H := H.1 hc
      exact xt_sub [0] rfl (VX11_beginPart_114 H)
    · have H := H.2 hc
      refine xt_iload_n (j := 2) dX11_beginPart_98 rfl rfl ?_
      refine xt_callS (h2 := h) (as := [.int x2]) (st := []) dX11_beginPart_99 (mlX11_573 rfl) rfl (by first | decide | (simp [Value.category]; done)) (Nat.le_refl _) H (fun r M8 HH hE => ?_)
      obtain ⟨r9, hr, H⟩ := HH hE
      subst hr
      have ho1 := ok_E ho1 hE
      show T _ _ _ _ [.int r9] _ _
      refine xt_if_eq (tgt := 131) dX11_beginPart_102 (by decide) (fun hc => ?_) (fun hc => ?_)
      · have H := H.1 hc
        exact xt_sub [0, 1, 2] rfl (VX11_beginPart_131 H)
      · have H := H.2 hc
        refine xt_aload_n (j := 0) dX11_beginPart_105 rfl rfl ?_
        refine xt_getI dX11_beginPart_106 (flX11_486 rfl) ft_13_33 ho1.1 ho1.2 ?_
        refine xt_bipush (v := 15) dX11_beginPart_109 (by decide) ?_
        refine xt_icmp_ne (tgt := 131) dX11_beginPart_111 (by decide) (fun hc => ?_) (fun hc => ?_)
        · have H := H.1 hc
          exact xt_sub [0, 1, 2] rfl (VX11_beginPart_131 H)
        · have H := H.2 hc
          exact xt_sub [0] rfl (VX11_beginPart_114 H)
def DX11_beginPart_0 (h : Nat) (x0 : Nat) (x1 : Int32) (M : Mem) (Q : Option Value → Mem → Prop) : Prop :=
  ok M x0 13 ∧ E h mdX11_sortOf [.ref x0] M (fun r M2 => mE M M2 → ∃ r3 : Int32, r = some (.int r3) ∧ (¬ r3 = (-1) → (¬ r3 = 15 → DX11_beginPart_65 h x0 x1 r3 M2 Q) ∧
  (r3 = 15 → ∃ b4 : Nat, mR M2 x0 4 = some b4 ∧ ok M2 b4 23 ∧ vp_in (mI M2 x0 5) (mL M2 b4) ∧ E h mdX11_variableNamed [.ref x0, .long (mAJ M2 b4 (mI M2 x0 5 : Int32).toNatClampNeg)] M2 (fun r M6 => mE M2 M6 → ∃ r7 : Int32, r = some (.int r7) ∧ (¬ r7 = (-1) → DX11_beginPart_65 h x0 x1 r3 M6 Q) ∧
  (r7 = (-1) → ∃ b8 : Nat, mR M6 x0 3 = some b8 ∧ ok M6 b8 21 ∧ vp_in (mI M6 x0 5) (mL M6 b8) ∧ E h mdX11_fails [.ref x0, .int 4, .int (mAI M6 b8 (mI M6 x0 5 : Int32).toNatClampNeg)] M6 (fun r M10 => mE M6 M10 → r = none ∧ Q (some (.int (-1))) M10))))) ∧
  (r3 = (-1) → ∃ b11 : Nat, mR M2 x0 3 = some b11 ∧ ok M2 b11 21 ∧ vp_in (mI M2 x0 5) (mL M2 b11) ∧ E h mdX11_fails [.ref x0, .int 2, .int (mAI M2 b11 (mI M2 x0 5 : Int32).toNatClampNeg)] M2 (fun r M13 => mE M2 M13 → r = none ∧ Q (some (.int (-1))) M13)))
set_option maxRecDepth 20000 in
set_option maxHeartbeats 2000000 in
theorem VX11_beginPart_0 {h : Nat} {x0 : Nat} {x1 : Int32} {M : Mem} {Q : Option Value → Mem → Prop} (H : DX11_beginPart_0 h x0 x1 M Q) : T (h + 1) mdX11_beginPart 0 [(0, .ref x0), (1, .int x1)] [] M Q := by
  unfold DX11_beginPart_0 at H
  refine xt_aload_n (j := 0) dX11_beginPart_0 rfl rfl ?_
  obtain ⟨ho1, H⟩ := H
  refine xt_callV (h2 := h) (as := []) (st := []) dX11_beginPart_1 (mlX11_567 rfl) rfl ho1.1 ⟨by rw [ho1.2]; rfl, by rw [ho1.2]; decide⟩ (by first | decide | (simp [Value.category]; done)) (Nat.le_refl _) H (fun r M2 HH hE => ?_)
  obtain ⟨r3, hr, H⟩ := HH hE
  subst hr
  have ho1 := ok_E ho1 hE
  show T _ _ _ _ [.int r3] _ _
  refine xt_istore_n (lv' := [(2, .int r3), (0, .ref x0), (1, .int x1)]) dX11_beginPart_4 rfl (by decide) rfl ?_
  refine xt_iload_n (j := 0) dX11_beginPart_5 rfl rfl ?_
  refine xt_iconst (v := -1) dX11_beginPart_6 (by decide) ?_
  refine xt_icmp_ne (tgt := 26) dX11_beginPart_7 (by decide) (fun hc => ?_) (fun hc => ?_)
  · have H := H.1 hc
    refine xt_iload_n (j := 0) dX11_beginPart_26 rfl rfl ?_
    refine xt_bipush (v := 15) dX11_beginPart_27 (by decide) ?_
    refine xt_icmp_ne (tgt := 65) dX11_beginPart_29 (by decide) (fun hc => ?_) (fun hc => ?_)
    · have H := H.1 hc
      exact xt_sub [1, 2, 0] rfl (VX11_beginPart_65 H)
    · have H := H.2 hc
      refine xt_aload_n (j := 1) dX11_beginPart_32 rfl rfl ?_
      refine xt_aload_n (j := 1) dX11_beginPart_33 rfl rfl ?_
      obtain ⟨b4, hb, H⟩ := H
      refine xt_getR dX11_beginPart_34 (flX11_19 rfl) ft_13_4 ho1.1 ho1.2 hb ?_
      refine xt_aload_n (j := 1) dX11_beginPart_37 rfl rfl ?_
      refine xt_getI dX11_beginPart_38 (flX11_366 rfl) ft_13_5 ho1.1 ho1.2 ?_
      obtain ⟨ho5, H⟩ := H
      obtain ⟨hi, H⟩ := H
      refine xt_lald dX11_beginPart_41 ho5.1 ho5.2 hi ?_
      refine xt_callV (h2 := h) (as := [.long (mAJ M2 b4 (mI M2 x0 5 : Int32).toNatClampNeg)]) (st := []) dX11_beginPart_42 (mlX11_475 rfl) rfl ho1.1 ⟨by rw [ho1.2]; rfl, by rw [ho1.2]; decide⟩ (by first | decide | (simp [Value.category]; done)) (Nat.le_refl _) H (fun r M6 HH hE => ?_)
      obtain ⟨r7, hr, H⟩ := HH hE
      subst hr
      have ho1 := ok_E ho1 hE
      show T _ _ _ _ [.int r7] _ _
      refine xt_iconst (v := -1) dX11_beginPart_45 (by decide) ?_
      refine xt_icmp_ne (tgt := 65) dX11_beginPart_46 (by decide) (fun hc => ?_) (fun hc => ?_)
      · have H := H.1 hc
        exact xt_sub [1, 2, 0] rfl (VX11_beginPart_65 H)
      · have H := H.2 hc
        refine xt_aload_n (j := 1) dX11_beginPart_49 rfl rfl ?_
        refine xt_iconst (v := 4) dX11_beginPart_50 (by decide) ?_
        refine xt_aload_n (j := 1) dX11_beginPart_51 rfl rfl ?_
        obtain ⟨b8, hb, H⟩ := H
        refine xt_getR dX11_beginPart_52 (flX11_16 rfl) ft_13_3 ho1.1 ho1.2 hb ?_
        refine xt_aload_n (j := 1) dX11_beginPart_55 rfl rfl ?_
        refine xt_getI dX11_beginPart_56 (flX11_366 rfl) ft_13_5 ho1.1 ho1.2 ?_
        obtain ⟨ho9, H⟩ := H
        obtain ⟨hi, H⟩ := H
        refine xt_iald dX11_beginPart_59 ho9.1 ho9.2 hi ?_
        refine xt_callV (h2 := h) (as := [.int 4, .int (mAI M6 b8 (mI M6 x0 5 : Int32).toNatClampNeg)]) (st := []) dX11_beginPart_60 (mlX11_369 rfl) rfl ho1.1 ⟨by rw [ho1.2]; rfl, by rw [ho1.2]; decide⟩ (by first | decide | (simp [Value.category]; done)) (Nat.le_refl _) H (fun r M10 HH hE => ?_)
        obtain ⟨hr, H⟩ := HH hE
        subst hr
        have ho1 := ok_E ho1 hE
        show T _ _ _ _ [] _ _
        refine xt_iconst (v := -1) dX11_beginPart_63 (by decide) ?_
        exact xt_ireturn dX11_beginPart_64 rfl H
  · have H := H.2 hc
    refine xt_aload_n (j := 1) dX11_beginPart_10 rfl rfl ?_
    refine xt_iconst (v := 2) dX11_beginPart_11 (by decide) ?_
    refine xt_aload_n (j := 1) dX11_beginPart_12 rfl rfl ?_
    obtain ⟨b11, hb, H⟩ := H
    refine xt_getR dX11_beginPart_13 (flX11_16 rfl) ft_13_3 ho1.1 ho1.2 hb ?_
    refine xt_aload_n (j := 1) dX11_beginPart_16 rfl rfl ?_
    refine xt_getI dX11_beginPart_17 (flX11_366 rfl) ft_13_5 ho1.1 ho1.2 ?_
    obtain ⟨ho12, H⟩ := H
    obtain ⟨hi, H⟩ := H
    refine xt_iald dX11_beginPart_20 ho12.1 ho12.2 hi ?_
    refine xt_callV (h2 := h) (as := [.int 2, .int (mAI M2 b11 (mI M2 x0 5 : Int32).toNatClampNeg)]) (st := []) dX11_beginPart_21 (mlX11_369 rfl) rfl ho1.1 ⟨by rw [ho1.2]; rfl, by rw [ho1.2]; decide⟩ (by first | decide | (simp [Value.category]; done)) (Nat.le_refl _) H (fun r M13 HH hE => ?_)
    obtain ⟨hr, H⟩ := HH hE
    subst hr
    have ho1 := ok_E ho1 hE
    show T _ _ _ _ [] _ _
    refine xt_iconst (v := -1) dX11_beginPart_24 (by decide) ?_
    exact xt_ireturn dX11_beginPart_25 rfl H
theorem KX11_beginPart {h : Nat} {x0 : Nat} {x1 : Int32} {M : Mem} {Q : Option Value → Mem → Prop} (H : DX11_beginPart_0 h x0 x1 M Q) : E (h + 1) mdX11_beginPart [.ref x0, .int x1] M Q := E.of (by decide) (Nat.le_of_ble_eq_true rfl) (fun _ _ _ => trivial) (VX11_beginPart_0 H)
def DX11_condOf_41 (h : Nat) (M : Mem) (Q : Option Value → Mem → Prop) : Prop :=
  Q none M
set_option maxRecDepth 20000 in
set_option maxHeartbeats 2000000 in
theorem VX11_condOf_41 {h : Nat} {M : Mem} {Q : Option Value → Mem → Prop} (H : DX11_condOf_41 h  M Q) : T (h + 1) mdX11_condOf 41 [] [] M Q := by
  unfold DX11_condOf_41 at H
  exact xt_return dX11_condOf_41 rfl H
def DX11_condOf_0 (h : Nat) (x0 : Nat) (x1 : Int32) (M : Mem) (Q : Option Value → Mem → Prop) : Prop :=
  ok M x0 13 ∧ (¬ (mI M x0 6) = 0 → DX11_condOf_41 h  M Q) ∧
  ((mI M x0 6) = 0 → ∃ b2 : Nat, mR M x0 42 = some b2 ∧ ∃ b3 : Nat, mR M x0 20 = some b3 ∧ ok M b3 21 ∧ vp_in (mI M x0 19) (mL M b3) ∧ ok M b2 21 ∧ vp_in x1 (mL M b2) ∧ ∀ M6 : Mem, M6 = wAI M b2 (x1 : Int32).toNatClampNeg ((410 * (mI M x0 19)) + (mAI M b3 (mI M x0 19 : Int32).toNatClampNeg)) →
  ∃ b7 : Nat, mR M6 x0 43 = some b7 ∧ E h mdX11_readCond [.ref x0] M6 (fun r M8 => mE M6 M8 → ∃ r9 : Int32, r = some (.int r9) ∧ ok M8 b7 21 ∧ vp_in x1 (mL M8 b7) ∧ ∀ M11 : Mem, M11 = wAI M8 b7 (x1 : Int32).toNatClampNeg r9 →
  DX11_condOf_41 h  M11 Q))
set_option maxRecDepth 20000 in
set_option maxHeartbeats 2000000 in
theorem VX11_condOf_0 {h : Nat} {x0 : Nat} {x1 : Int32} {M : Mem} {Q : Option Value → Mem → Prop} (H : DX11_condOf_0 h x0 x1 M Q) : T (h + 1) mdX11_condOf 0 [(0, .ref x0), (1, .int x1)] [] M Q := by
  unfold DX11_condOf_0 at H
  refine xt_aload_n (j := 0) dX11_condOf_0 rfl rfl ?_
  obtain ⟨ho1, H⟩ := H
  refine xt_getI dX11_condOf_1 (flX11_360 rfl) ft_13_6 ho1.1 ho1.2 ?_
  refine xt_if_ne (tgt := 41) dX11_condOf_4 (by decide) (fun hc => ?_) (fun hc => ?_)
  · have H := H.1 hc
    exact xt_sub [] rfl (VX11_condOf_41 H)
  · have H := H.2 hc
    refine xt_aload_n (j := 0) dX11_condOf_7 rfl rfl ?_
    obtain ⟨b2, hb, H⟩ := H
    refine xt_getR dX11_condOf_8 (flX11_108 rfl) ft_13_42 ho1.1 ho1.2 hb ?_
    refine xt_iload_n (j := 1) dX11_condOf_11 rfl rfl ?_
    refine xt_sipush (v := 410) dX11_condOf_12 (by decide) ?_
    refine xt_aload_n (j := 0) dX11_condOf_15 rfl rfl ?_
    refine xt_getI dX11_condOf_16 (flX11_450 rfl) ft_13_19 ho1.1 ho1.2 ?_
    refine xt_imul dX11_condOf_19 ?_
    refine xt_aload_n (j := 0) dX11_condOf_20 rfl rfl ?_
    obtain ⟨b3, hb, H⟩ := H
    refine xt_getR dX11_condOf_21 (flX11_54 rfl) ft_13_20 ho1.1 ho1.2 hb ?_
    refine xt_aload_n (j := 0) dX11_condOf_24 rfl rfl ?_
    refine xt_getI dX11_condOf_25 (flX11_450 rfl) ft_13_19 ho1.1 ho1.2 ?_
    obtain ⟨ho4, H⟩ := H
    obtain ⟨hi, H⟩ := H
    refine xt_iald dX11_condOf_28 ho4.1 ho4.2 hi ?_
    refine xt_iadd dX11_condOf_29 ?_
    obtain ⟨ho5, H⟩ := H
    obtain ⟨hi, H⟩ := H
    obtain ⟨M6, eM6⟩ : ∃ z, z = wAI M b2 (x1 : Int32).toNatClampNeg ((410 * (mI M x0 19)) + (mAI M b3 (mI M x0 19 : Int32).toNatClampNeg)) := ⟨_, rfl⟩
    have H := H _ eM6
    refine xt_iast dX11_condOf_30 ho5.1 ho5.2 hi ?_
    have ho1 : ok M6 x0 13 := by rw [eM6]; exact ho1
    rw [← eM6]
    refine xt_aload_n (j := 0) dX11_condOf_31 rfl rfl ?_
    obtain ⟨b7, hb, H⟩ := H
    refine xt_getR dX11_condOf_32 (flX11_111 rfl) ft_13_43 ho1.1 ho1.2 hb ?_
    refine xt_iload_n (j := 1) dX11_condOf_35 rfl rfl ?_
    refine xt_aload_n (j := 0) dX11_condOf_36 rfl rfl ?_
    refine xt_callV (h2 := h) (as := []) (st := [.int x1, .ref b7]) dX11_condOf_37 (mlX11_579 rfl) rfl ho1.1 ⟨by rw [ho1.2]; rfl, by rw [ho1.2]; decide⟩ (by first | decide | (simp [Value.category]; done)) (Nat.le_refl _) H (fun r M8 HH hE => ?_)
    obtain ⟨r9, hr, H⟩ := HH hE
    subst hr
    have ho1 := ok_E ho1 hE
    show T _ _ _ _ [.int r9, .int x1, .ref b7] _ _
    obtain ⟨ho10, H⟩ := H
    obtain ⟨hi, H⟩ := H
    obtain ⟨M11, eM11⟩ : ∃ z, z = wAI M8 b7 (x1 : Int32).toNatClampNeg r9 := ⟨_, rfl⟩
    have H := H _ eM11
    refine xt_iast dX11_condOf_40 ho10.1 ho10.2 hi ?_
    have ho1 : ok M11 x0 13 := by rw [eM11]; exact ho1
    rw [← eM11]
    exact xt_sub [] rfl (VX11_condOf_41 H)
theorem KX11_condOf {h : Nat} {x0 : Nat} {x1 : Int32} {M : Mem} {Q : Option Value → Mem → Prop} (H : DX11_condOf_0 h x0 x1 M Q) : E (h + 1) mdX11_condOf [.ref x0, .int x1] M Q := E.of (by decide) (Nat.le_of_ble_eq_true rfl) (fun _ _ _ => trivial) (VX11_condOf_0 H)
def DX11_atOnceOf_29 (h : Nat) (x0 : Nat) (x1 : Int32) (M : Mem) (Q : Option Value → Mem → Prop) : Prop :=
  ok M x0 13 ∧ E h mdX11_condOf [.ref x0, .int x1] M (fun r M2 => mE M M2 → r = none ∧ Q none M2)
set_option maxRecDepth 20000 in
set_option maxHeartbeats 2000000 in
theorem VX11_atOnceOf_29 {h : Nat} {x0 : Nat} {x1 : Int32} {M : Mem} {Q : Option Value → Mem → Prop} (H : DX11_atOnceOf_29 h x0 x1 M Q) : T (h + 1) mdX11_atOnceOf 29 [(0, .ref x0), (1, .int x1)] [] M Q := by
  unfold DX11_atOnceOf_29 at H
  refine xt_aload_n (j := 0) dX11_atOnceOf_29 rfl rfl ?_
  refine xt_iload_n (j := 1) dX11_atOnceOf_30 rfl rfl ?_
  obtain ⟨ho1, H⟩ := H
  refine xt_callV (h2 := h) (as := [.int x1]) (st := []) dX11_atOnceOf_31 (mlX11_582 rfl) rfl ho1.1 ⟨by rw [ho1.2]; rfl, by rw [ho1.2]; decide⟩ (by first | decide | (simp [Value.category]; done)) (Nat.le_refl _) H (fun r M2 HH hE => ?_)
  obtain ⟨hr, H⟩ := HH hE
  subst hr
  have ho1 := ok_E ho1 hE
  show T _ _ _ _ [] _ _
  exact xt_return dX11_atOnceOf_34 rfl H
def DX11_atOnceOf_0 (h : Nat) (x0 : Nat) (x1 : Int32) (M : Mem) (Q : Option Value → Mem → Prop) : Prop :=
  ok M x0 13 ∧ (¬ (mI M x0 6) = 0 → DX11_atOnceOf_29 h x0 x1 M Q) ∧
  ((mI M x0 6) = 0 → E h mdX11_isSaid [.ref x0, .int 1, .long 2682960935045] M (fun r M2 => mE M M2 → ∃ r3 : Int32, r = some (.int r3) ∧ (r3 = 0 → DX11_atOnceOf_29 h x0 x1 M2 Q) ∧
  (¬ (r3 = 0) → ∃ b4 : Nat, mR M2 x0 41 = some b4 ∧ ok M2 b4 22 ∧ vp_in x1 (mL M2 b4) ∧ ∀ M6 : Mem, M6 = wAI M2 b4 (x1 : Int32).toNatClampNeg (vp_nar .boolean 1) →
  E h mdX11_take [.ref x0] M6 (fun r M7 => mE M6 M7 → r = none ∧ DX11_atOnceOf_29 h x0 x1 M7 Q))))
set_option maxRecDepth 20000 in
set_option maxHeartbeats 2000000 in
theorem VX11_atOnceOf_0 {h : Nat} {x0 : Nat} {x1 : Int32} {M : Mem} {Q : Option Value → Mem → Prop} (H : DX11_atOnceOf_0 h x0 x1 M Q) : T (h + 1) mdX11_atOnceOf 0 [(0, .ref x0), (1, .int x1)] [] M Q := by
  unfold DX11_atOnceOf_0 at H
  refine xt_aload_n (j := 0) dX11_atOnceOf_0 rfl rfl ?_
  obtain ⟨ho1, H⟩ := H
  refine xt_getI dX11_atOnceOf_1 (flX11_360 rfl) ft_13_6 ho1.1 ho1.2 ?_
  refine xt_if_ne (tgt := 29) dX11_atOnceOf_4 (by decide) (fun hc => ?_) (fun hc => ?_)
  · have H := H.1 hc
    exact xt_sub [0, 1] rfl (VX11_atOnceOf_29 H)
  · have H := H.2 hc
    refine xt_aload_n (j := 0) dX11_atOnceOf_7 rfl rfl ?_
    refine xt_iconst (v := 1) dX11_atOnceOf_8 (by decide) ?_
    refine xt_ldc2 (v := 2682960935045) dX11_atOnceOf_9 (ctX11_430 rfl) ?_
    refine xt_callV (h2 := h) (as := [.int 1, .long 2682960935045]) (st := []) dX11_atOnceOf_12 (mlX11_373 rfl) rfl ho1.1 ⟨by rw [ho1.2]; rfl, by rw [ho1.2]; decide⟩ (by first | decide | (simp [Value.category]; done)) (Nat.le_refl _) H (fun r M2 HH hE => ?_)
    obtain ⟨r3, hr, H⟩ := HH hE
    subst hr
    have ho1 := ok_E ho1 hE
    show T _ _ _ _ [.int r3] _ _
    refine xt_if_eq (tgt := 29) dX11_atOnceOf_15 (by decide) (fun hc => ?_) (fun hc => ?_)
    · have H := H.1 hc
      exact xt_sub [0, 1] rfl (VX11_atOnceOf_29 H)
    · have H := H.2 hc
      refine xt_aload_n (j := 0) dX11_atOnceOf_18 rfl rfl ?_
      obtain ⟨b4, hb, H⟩ := H
      refine xt_getR dX11_atOnceOf_19 (flX11_105 rfl) ft_13_41 ho1.1 ho1.2 hb ?_
      refine xt_iload_n (j := 1) dX11_atOnceOf_22 rfl rfl ?_
      refine xt_iconst (v := 1) dX11_atOnceOf_23 (by decide) ?_
      obtain ⟨ho5, H⟩ := H
      obtain ⟨hi, H⟩ := H
      obtain ⟨M6, eM6⟩ : ∃ z, z = wAI M2 b4 (x1 : Int32).toNatClampNeg (vp_nar .boolean 1) := ⟨_, rfl⟩
      have H := H _ eM6
      refine xt_zast dX11_atOnceOf_24 ho5.1 ho5.2 hi ?_
      have ho1 : ok M6 x0 13 := by rw [eM6]; exact ho1
      rw [← eM6]
      refine xt_aload_n (j := 0) dX11_atOnceOf_25 rfl rfl ?_
      refine xt_callV (h2 := h) (as := []) (st := []) dX11_atOnceOf_26 (mlX11_377 rfl) rfl ho1.1 ⟨by rw [ho1.2]; rfl, by rw [ho1.2]; decide⟩ (by first | decide | (simp [Value.category]; done)) (Nat.le_refl _) H (fun r M7 HH hE => ?_)
      obtain ⟨hr, H⟩ := HH hE
      subst hr
      have ho1 := ok_E ho1 hE
      show T _ _ _ _ [] _ _
      exact xt_sub [0, 1] rfl (VX11_atOnceOf_29 H)
theorem KX11_atOnceOf {h : Nat} {x0 : Nat} {x1 : Int32} {M : Mem} {Q : Option Value → Mem → Prop} (H : DX11_atOnceOf_0 h x0 x1 M Q) : E (h + 1) mdX11_atOnceOf [.ref x0, .int x1] M Q := E.of (by decide) (Nat.le_of_ble_eq_true rfl) (fun _ _ _ => trivial) (VX11_atOnceOf_0 H)
def DX11_sumOf_69 (h : Nat) (M : Mem) (Q : Option Value → Mem → Prop) : Prop :=
  Q none M
set_option maxRecDepth 20000 in
set_option maxHeartbeats 2000000 in
theorem VX11_sumOf_69 {h : Nat} {M : Mem} {Q : Option Value → Mem → Prop} (H : DX11_sumOf_69 h  M Q) : T (h + 1) mdX11_sumOf 69 [] [] M Q := by
  unfold DX11_sumOf_69 at H
  exact xt_return dX11_sumOf_69 rfl H
def DX11_sumOf_0 (h : Nat) (x0 : Nat) (x1 : Int32) (x2 : Int32) (M : Mem) (Q : Option Value → Mem → Prop) : Prop :=
  ok M x0 13 ∧ (¬ (mI M x0 6) = 0 → DX11_sumOf_69 h  M Q) ∧
  ((mI M x0 6) = 0 → ∃ b2 : Nat, mR M x0 24 = some b2 ∧ ok M b2 21 ∧ vp_in (mI M x0 19) (mL M b2) ∧ E h mdX11_readSum [.ref x0] M (fun r M4 => mE M M4 → ∃ r5 : Int32, r = some (.int r5) ∧ (x2 = 0 → ∃ b6 : Nat, mR M4 x0 44 = some b6 ∧ ok M4 b6 21 ∧ vp_in x1 (mL M4 b6) ∧ ∀ M8 : Mem, M8 = wAI M4 b6 (x1 : Int32).toNatClampNeg ((810 * (mI M x0 19)) + (mAI M b2 (mI M x0 19 : Int32).toNatClampNeg)) →
  ∃ b9 : Nat, mR M8 x0 45 = some b9 ∧ ok M8 b9 21 ∧ vp_in x1 (mL M8 b9) ∧ ∀ M11 : Mem, M11 = wAI M8 b9 (x1 : Int32).toNatClampNeg r5 →
  DX11_sumOf_69 h  M11 Q) ∧
  (¬ (x2 = 0) → ∃ b12 : Nat, mR M4 x0 46 = some b12 ∧ ok M4 b12 21 ∧ vp_in x1 (mL M4 b12) ∧ ∀ M14 : Mem, M14 = wAI M4 b12 (x1 : Int32).toNatClampNeg ((810 * (mI M x0 19)) + (mAI M b2 (mI M x0 19 : Int32).toNatClampNeg)) →
  ∃ b15 : Nat, mR M14 x0 47 = some b15 ∧ ok M14 b15 21 ∧ vp_in x1 (mL M14 b15) ∧ ∀ M17 : Mem, M17 = wAI M14 b15 (x1 : Int32).toNatClampNeg r5 →
  DX11_sumOf_69 h  M17 Q)))
set_option maxRecDepth 20000 in
set_option maxHeartbeats 2000000 in
theorem VX11_sumOf_0 {h : Nat} {x0 : Nat} {x1 : Int32} {x2 : Int32} {M : Mem} {Q : Option Value → Mem → Prop} (H : DX11_sumOf_0 h x0 x1 x2 M Q) : T (h + 1) mdX11_sumOf 0 [(0, .ref x0), (1, .int x1), (2, .int x2)] [] M Q := by
  unfold DX11_sumOf_0 at H
  refine xt_aload_n (j := 0) dX11_sumOf_0 rfl rfl ?_
  obtain ⟨ho1, H⟩ := H
  refine xt_getI dX11_sumOf_1 (flX11_360 rfl) ft_13_6 ho1.1 ho1.2 ?_
  refine xt_if_ne (tgt := 69) dX11_sumOf_4 (by decide) (fun hc => ?_) (fun hc => ?_)
  · have H := H.1 hc
    exact xt_sub [] rfl (VX11_sumOf_69 H)
  · have H := H.2 hc
    refine xt_sipush (v := 810) dX11_sumOf_7 (by decide) ?_
    refine xt_aload_n (j := 0) dX11_sumOf_10 rfl rfl ?_
    refine xt_getI dX11_sumOf_11 (flX11_450 rfl) ft_13_19 ho1.1 ho1.2 ?_
    refine xt_imul dX11_sumOf_14 ?_
    refine xt_aload_n (j := 0) dX11_sumOf_15 rfl rfl ?_
    obtain ⟨b2, hb, H⟩ := H
    refine xt_getR dX11_sumOf_16 (flX11_66 rfl) ft_13_24 ho1.1 ho1.2 hb ?_
    refine xt_aload_n (j := 0) dX11_sumOf_19 rfl rfl ?_
    refine xt_getI dX11_sumOf_20 (flX11_450 rfl) ft_13_19 ho1.1 ho1.2 ?_
    obtain ⟨ho3, H⟩ := H
    obtain ⟨hi, H⟩ := H
    refine xt_iald dX11_sumOf_23 ho3.1 ho3.2 hi ?_
    refine xt_iadd dX11_sumOf_24 ?_
    refine xt_istore_n (lv' := [(3, .int ((810 * (mI M x0 19)) + (mAI M b2 (mI M x0 19 : Int32).toNatClampNeg))), (0, .ref x0), (1, .int x1), (2, .int x2)]) dX11_sumOf_25 rfl (by decide) rfl ?_
    refine xt_aload_n (j := 1) dX11_sumOf_26 rfl rfl ?_
    refine xt_callV (h2 := h) (as := []) (st := []) dX11_sumOf_27 (mlX11_585 rfl) rfl ho1.1 ⟨by rw [ho1.2]; rfl, by rw [ho1.2]; decide⟩ (by first | decide | (simp [Value.category]; done)) (Nat.le_refl _) H (fun r M4 HH hE => ?_)
    obtain ⟨r5, hr, H⟩ := HH hE
    subst hr
    have ho1 := ok_E ho1 hE
    show T _ _ _ _ [.int r5] _ _
    refine xt_istore (lv' := [(4, .int r5), (3, .int ((810 * (mI M x0 19)) + (mAI M b2 (mI M x0 19 : Int32).toNatClampNeg))), (0, .ref x0), (1, .int x1), (2, .int x2)]) dX11_sumOf_30 (by decide) rfl ?_
    refine xt_iload_n (j := 4) dX11_sumOf_32 rfl rfl ?_
    refine xt_if_eq (tgt := 54) dX11_sumOf_33 (by decide) (fun hc => ?_) (fun hc => ?_)
    · have H := H.1 hc
      refine xt_aload_n (j := 2) dX11_sumOf_54 rfl rfl ?_
      obtain ⟨b6, hb, H⟩ := H
      refine xt_getR dX11_sumOf_55 (flX11_114 rfl) ft_13_44 ho1.1 ho1.2 hb ?_
      refine xt_iload_n (j := 3) dX11_sumOf_58 rfl rfl ?_
      refine xt_iload_n (j := 1) dX11_sumOf_59 rfl rfl ?_
      obtain ⟨ho7, H⟩ := H
      obtain ⟨hi, H⟩ := H
      obtain ⟨M8, eM8⟩ : ∃ z, z = wAI M4 b6 (x1 : Int32).toNatClampNeg ((810 * (mI M x0 19)) + (mAI M b2 (mI M x0 19 : Int32).toNatClampNeg)) := ⟨_, rfl⟩
      have H := H _ eM8
      refine xt_iast dX11_sumOf_60 ho7.1 ho7.2 hi ?_
      have ho1 : ok M8 x0 13 := by rw [eM8]; exact ho1
      rw [← eM8]
      refine xt_aload_n (j := 2) dX11_sumOf_61 rfl rfl ?_
      obtain ⟨b9, hb, H⟩ := H
      refine xt_getR dX11_sumOf_62 (flX11_117 rfl) ft_13_45 ho1.1 ho1.2 hb ?_
      refine xt_iload_n (j := 3) dX11_sumOf_65 rfl rfl ?_
      refine xt_iload (j := 0) dX11_sumOf_66 rfl ?_
      obtain ⟨ho10, H⟩ := H
      obtain ⟨hi, H⟩ := H
      obtain ⟨M11, eM11⟩ : ∃ z, z = wAI M8 b9 (x1 : Int32).toNatClampNeg r5 := ⟨_, rfl⟩
      have H := H _ eM11
      refine xt_iast dX11_sumOf_68 ho10.1 ho10.2 hi ?_
      have ho1 : ok M11 x0 13 := by rw [eM11]; exact ho1
      rw [← eM11]
      exact xt_sub [] rfl (VX11_sumOf_69 H)
    · have H := H.2 hc
      refine xt_aload_n (j := 2) dX11_sumOf_36 rfl rfl ?_
      obtain ⟨b12, hb, H⟩ := H
      refine xt_getR dX11_sumOf_37 (flX11_120 rfl) ft_13_46 ho1.1 ho1.2 hb ?_
      refine xt_iload_n (j := 3) dX11_sumOf_40 rfl rfl ?_
      refine xt_iload_n (j := 1) dX11_sumOf_41 rfl rfl ?_
      obtain ⟨ho13, H⟩ := H
      obtain ⟨hi, H⟩ := H
      obtain ⟨M14, eM14⟩ : ∃ z, z = wAI M4 b12 (x1 : Int32).toNatClampNeg ((810 * (mI M x0 19)) + (mAI M b2 (mI M x0 19 : Int32).toNatClampNeg)) := ⟨_, rfl⟩
      have H := H _ eM14
      refine xt_iast dX11_sumOf_42 ho13.1 ho13.2 hi ?_
      have ho1 : ok M14 x0 13 := by rw [eM14]; exact ho1
      rw [← eM14]
      refine xt_aload_n (j := 2) dX11_sumOf_43 rfl rfl ?_
      obtain ⟨b15, hb, H⟩ := H
      refine xt_getR dX11_sumOf_44 (flX11_123 rfl) ft_13_47 ho1.1 ho1.2 hb ?_
      refine xt_iload_n (j := 3) dX11_sumOf_47 rfl rfl ?_
      refine xt_iload (j := 0) dX11_sumOf_48 rfl ?_
      obtain ⟨ho16, H⟩ := H
      obtain ⟨hi, H⟩ := H
      obtain ⟨M17, eM17⟩ : ∃ z, z = wAI M14 b15 (x1 : Int32).toNatClampNeg r5 := ⟨_, rfl⟩
      have H := H _ eM17
      refine xt_iast dX11_sumOf_50 ho16.1 ho16.2 hi ?_
      have ho1 : ok M17 x0 13 := by rw [eM17]; exact ho1
      rw [← eM17]
      refine xt_goto (tgt := 69) dX11_sumOf_51 (by decide) ?_
      exact xt_sub [] rfl (VX11_sumOf_69 H)
theorem KX11_sumOf {h : Nat} {x0 : Nat} {x1 : Int32} {x2 : Int32} {M : Mem} {Q : Option Value → Mem → Prop} (H : DX11_sumOf_0 h x0 x1 x2 M Q) : E (h + 1) mdX11_sumOf [.ref x0, .int x1, .int x2] M Q := E.of (by decide) (Nat.le_of_ble_eq_true rfl) (fun _ _ _ => trivial) (VX11_sumOf_0 H)
def DX11_emitOf_249 (h : Nat) (M : Mem) (Q : Option Value → Mem → Prop) : Prop :=
  Q none M
set_option maxRecDepth 20000 in
set_option maxHeartbeats 2000000 in
theorem VX11_emitOf_249 {h : Nat} {M : Mem} {Q : Option Value → Mem → Prop} (H : DX11_emitOf_249 h  M Q) : T (h + 1) mdX11_emitOf 249 [] [] M Q := by
  unfold DX11_emitOf_249 at H
  exact xt_return dX11_emitOf_249 rfl H
def DX11_emitOf_206 (h : Nat) (x0 : Nat) (x1 : Int32) (x5 : Int32) (M : Mem) (Q : Option Value → Mem → Prop) : Prop :=
  (x5 = 0 → DX11_emitOf_249 h  M Q) ∧
  (¬ (x5 = 0) → ok M x0 13 ∧ ∀ M2 : Mem, M2 = wI M x0 33 ((mI M x0 33) + 1) →
  E h mdX11_take [.ref x0] M2 (fun r M3 => mE M2 M3 → r = none ∧ E h mdX11_sumOf [.ref x0, .int x1, .int 0] M3 (fun r M4 => mE M3 M4 → r = none ∧ E h mdX11_want [.ref x0, .int 3, .long 41] M4 (fun r M5 => mE M4 M5 → r = none ∧ ∀ M6 : Mem, M6 = wI M5 x0 33 ((mI M5 x0 33) - 1) →
  DX11_emitOf_249 h  M6 Q))))
set_option maxRecDepth 20000 in
set_option maxHeartbeats 2000000 in
theorem VX11_emitOf_206 {h : Nat} {x0 : Nat} {x1 : Int32} {x5 : Int32} {M : Mem} {Q : Option Value → Mem → Prop} (H : DX11_emitOf_206 h x0 x1 x5 M Q) : T (h + 1) mdX11_emitOf 206 [(0, .ref x0), (1, .int x1), (5, .int x5)] [] M Q := by
  unfold DX11_emitOf_206 at H
  refine xt_iload (j := 2) dX11_emitOf_206 rfl ?_
  refine xt_if_eq (tgt := 249) dX11_emitOf_208 (by decide) (fun hc => ?_) (fun hc => ?_)
  · have H := H.1 hc
    exact xt_sub [] rfl (VX11_emitOf_249 H)
  · have H := H.2 hc
    refine xt_aload_n (j := 0) dX11_emitOf_211 rfl rfl ?_
    refine xt_dup dX11_emitOf_212 rfl ?_
    obtain ⟨ho1, H⟩ := H
    refine xt_getI dX11_emitOf_213 (flX11_486 rfl) ft_13_33 ho1.1 ho1.2 ?_
    refine xt_iconst (v := 1) dX11_emitOf_216 (by decide) ?_
    refine xt_iadd dX11_emitOf_217 ?_
    obtain ⟨M2, eM2⟩ : ∃ z, z = wI M x0 33 ((mI M x0 33) + 1) := ⟨_, rfl⟩
    have H := H _ eM2
    refine xt_putI dX11_emitOf_218 (flX11_486 rfl) ty_13_33 rfl ho1.1 ho1.2 ?_
    have ho1 : ok M2 x0 13 := by rw [eM2]; exact ho1
    rw [← eM2]
    refine xt_aload_n (j := 0) dX11_emitOf_221 rfl rfl ?_
    refine xt_callV (h2 := h) (as := []) (st := []) dX11_emitOf_222 (mlX11_377 rfl) rfl ho1.1 ⟨by rw [ho1.2]; rfl, by rw [ho1.2]; decide⟩ (by first | decide | (simp [Value.category]; done)) (Nat.le_refl _) H (fun r M3 HH hE => ?_)
    obtain ⟨hr, H⟩ := HH hE
    subst hr
    have ho1 := ok_E ho1 hE
    show T _ _ _ _ [] _ _
    refine xt_aload_n (j := 0) dX11_emitOf_225 rfl rfl ?_
    refine xt_iload_n (j := 1) dX11_emitOf_226 rfl rfl ?_
    refine xt_iconst (v := 0) dX11_emitOf_227 (by decide) ?_
    refine xt_callV (h2 := h) (as := [.int x1, .int 0]) (st := []) dX11_emitOf_228 (mlX11_588 rfl) rfl ho1.1 ⟨by rw [ho1.2]; rfl, by rw [ho1.2]; decide⟩ (by first | decide | (simp [Value.category]; done)) (Nat.le_refl _) H (fun r M4 HH hE => ?_)
    obtain ⟨hr, H⟩ := HH hE
    subst hr
    have ho1 := ok_E ho1 hE
    show T _ _ _ _ [] _ _
    refine xt_aload_n (j := 0) dX11_emitOf_231 rfl rfl ?_
    refine xt_iconst (v := 3) dX11_emitOf_232 (by decide) ?_
    refine xt_ldc2 (v := 41) dX11_emitOf_233 (ctX11_524 rfl) ?_
    refine xt_callV (h2 := h) (as := [.int 3, .long 41]) (st := []) dX11_emitOf_236 (mlX11_464 rfl) rfl ho1.1 ⟨by rw [ho1.2]; rfl, by rw [ho1.2]; decide⟩ (by first | decide | (simp [Value.category]; done)) (Nat.le_refl _) H (fun r M5 HH hE => ?_)
    obtain ⟨hr, H⟩ := HH hE
    subst hr
    have ho1 := ok_E ho1 hE
    show T _ _ _ _ [] _ _
    refine xt_aload_n (j := 0) dX11_emitOf_239 rfl rfl ?_
    refine xt_dup dX11_emitOf_240 rfl ?_
    refine xt_getI dX11_emitOf_241 (flX11_486 rfl) ft_13_33 ho1.1 ho1.2 ?_
    refine xt_iconst (v := 1) dX11_emitOf_244 (by decide) ?_
    refine xt_isub dX11_emitOf_245 ?_
    obtain ⟨M6, eM6⟩ : ∃ z, z = wI M5 x0 33 ((mI M5 x0 33) - 1) := ⟨_, rfl⟩
    have H := H _ eM6
    refine xt_putI dX11_emitOf_246 (flX11_486 rfl) ty_13_33 rfl ho1.1 ho1.2 ?_
    have ho1 : ok M6 x0 13 := by rw [eM6]; exact ho1
    rw [← eM6]
    exact xt_sub [] rfl (VX11_emitOf_249 H)
def DX11_emitOf_156 (h : Nat) (x0 : Nat) (x1 : Int32) (x3 : Int32) (x4 : Int32) (s0 : Int32) (M : Mem) (Q : Option Value → Mem → Prop) : Prop :=
  (x4 = s0 → (s0 = 0 → DX11_emitOf_206 h x0 x1 s0 M Q) ∧
  (¬ (s0 = 0) → ok M x0 13 ∧ (¬ (mI M x0 33) = 15 → DX11_emitOf_206 h x0 x1 s0 M Q) ∧
  ((mI M x0 33) = 15 → ∃ b2 : Nat, mR M x0 3 = some b2 ∧ ok M b2 21 ∧ vp_in (mI M x0 5) (mL M b2) ∧ E h mdX11_fails [.ref x0, .int 6, .int (mAI M b2 (mI M x0 5 : Int32).toNatClampNeg)] M (fun r M4 => mE M M4 → r = none ∧ DX11_emitOf_249 h  M4 Q)))) ∧
  (¬ (x4 = s0) → ok M x0 13 ∧ E h mdX11_fails [.ref x0, .int 5, .int x3] M (fun r M6 => mE M M6 → r = none ∧ DX11_emitOf_249 h  M6 Q))
set_option maxRecDepth 20000 in
set_option maxHeartbeats 2000000 in
theorem VX11_emitOf_156 {h : Nat} {x0 : Nat} {x1 : Int32} {x3 : Int32} {x4 : Int32} {s0 : Int32} {M : Mem} {Q : Option Value → Mem → Prop} (H : DX11_emitOf_156 h x0 x1 x3 x4 s0 M Q) : T (h + 1) mdX11_emitOf 156 [(0, .ref x0), (1, .int x1), (3, .int x3), (4, .int x4)] [.int s0] M Q := by
  unfold DX11_emitOf_156 at H
  refine xt_istore (lv' := [(5, .int s0), (0, .ref x0), (1, .int x1), (3, .int x3), (4, .int x4)]) dX11_emitOf_156 (by decide) rfl ?_
  refine xt_iload (j := 4) dX11_emitOf_158 rfl ?_
  refine xt_iload (j := 0) dX11_emitOf_160 rfl ?_
  refine xt_icmp_eq (tgt := 174) dX11_emitOf_162 (by decide) (fun hc => ?_) (fun hc => ?_)
  · have H := H.1 hc
    refine xt_iload (j := 0) dX11_emitOf_174 rfl ?_
    refine xt_if_eq (tgt := 206) dX11_emitOf_176 (by decide) (fun hc => ?_) (fun hc => ?_)
    · have H := H.1 hc
      exact xt_sub [1, 2, 0] rfl (VX11_emitOf_206 H)
    · have H := H.2 hc
      refine xt_aload_n (j := 1) dX11_emitOf_179 rfl rfl ?_
      obtain ⟨ho1, H⟩ := H
      refine xt_getI dX11_emitOf_180 (flX11_486 rfl) ft_13_33 ho1.1 ho1.2 ?_
      refine xt_bipush (v := 15) dX11_emitOf_183 (by decide) ?_
      refine xt_icmp_ne (tgt := 206) dX11_emitOf_185 (by decide) (fun hc => ?_) (fun hc => ?_)
      · have H := H.1 hc
        exact xt_sub [1, 2, 0] rfl (VX11_emitOf_206 H)
      · have H := H.2 hc
        refine xt_aload_n (j := 1) dX11_emitOf_188 rfl rfl ?_
        refine xt_bipush (v := 6) dX11_emitOf_189 (by decide) ?_
        refine xt_aload_n (j := 1) dX11_emitOf_191 rfl rfl ?_
        obtain ⟨b2, hb, H⟩ := H
        refine xt_getR dX11_emitOf_192 (flX11_16 rfl) ft_13_3 ho1.1 ho1.2 hb ?_
        refine xt_aload_n (j := 1) dX11_emitOf_195 rfl rfl ?_
        refine xt_getI dX11_emitOf_196 (flX11_366 rfl) ft_13_5 ho1.1 ho1.2 ?_
        obtain ⟨ho3, H⟩ := H
        obtain ⟨hi, H⟩ := H
        refine xt_iald dX11_emitOf_199 ho3.1 ho3.2 hi ?_
        refine xt_callV (h2 := h) (as := [.int 6, .int (mAI M b2 (mI M x0 5 : Int32).toNatClampNeg)]) (st := []) dX11_emitOf_200 (mlX11_369 rfl) rfl ho1.1 ⟨by rw [ho1.2]; rfl, by rw [ho1.2]; decide⟩ (by first | decide | (simp [Value.category]; done)) (Nat.le_refl _) H (fun r M4 HH hE => ?_)
        obtain ⟨hr, H⟩ := HH hE
        subst hr
        have ho1 := ok_E ho1 hE
        show T _ _ _ _ [] _ _
        refine xt_goto (tgt := 249) dX11_emitOf_203 (by decide) ?_
        exact xt_sub [] rfl (VX11_emitOf_249 H)
  · have H := H.2 hc
    refine xt_aload_n (j := 1) dX11_emitOf_165 rfl rfl ?_
    refine xt_iconst (v := 5) dX11_emitOf_166 (by decide) ?_
    refine xt_iload_n (j := 3) dX11_emitOf_167 rfl rfl ?_
    obtain ⟨ho5, H⟩ := H
    refine xt_callV (h2 := h) (as := [.int 5, .int x3]) (st := []) dX11_emitOf_168 (mlX11_369 rfl) rfl ho5.1 ⟨by rw [ho5.2]; rfl, by rw [ho5.2]; decide⟩ (by first | decide | (simp [Value.category]; done)) (Nat.le_refl _) H (fun r M6 HH hE => ?_)
    obtain ⟨hr, H⟩ := HH hE
    subst hr
    have ho5 := ok_E ho5 hE
    show T _ _ _ _ [] _ _
    refine xt_goto (tgt := 249) dX11_emitOf_171 (by decide) ?_
    exact xt_sub [] rfl (VX11_emitOf_249 H)
def DX11_emitOf_155 (h : Nat) (x0 : Nat) (x1 : Int32) (x3 : Int32) (x4 : Int32) (M : Mem) (Q : Option Value → Mem → Prop) : Prop :=
  DX11_emitOf_156 h x0 x1 x3 x4 0 M Q
set_option maxRecDepth 20000 in
set_option maxHeartbeats 2000000 in
theorem VX11_emitOf_155 {h : Nat} {x0 : Nat} {x1 : Int32} {x3 : Int32} {x4 : Int32} {M : Mem} {Q : Option Value → Mem → Prop} (H : DX11_emitOf_155 h x0 x1 x3 x4 M Q) : T (h + 1) mdX11_emitOf 155 [(0, .ref x0), (1, .int x1), (3, .int x3), (4, .int x4)] [] M Q := by
  unfold DX11_emitOf_155 at H
  refine xt_iconst (v := 0) dX11_emitOf_155 (by decide) ?_
  exact xt_sub [0, 1, 2, 3] rfl (VX11_emitOf_156 H)
def DX11_emitOf_116 (h : Nat) (x0 : Nat) (x1 : Int32) (x3 : Int32) (s0 : Int32) (M : Mem) (Q : Option Value → Mem → Prop) : Prop :=
  ok M x0 13 ∧ E h mdX11_take [.ref x0] M (fun r M2 => mE M M2 → r = none ∧ ((mI M2 x0 6) ≤ 0 → ∃ b3 : Nat, mR M2 x0 38 = some b3 ∧ ok M2 b3 21 ∧ vp_in x1 (mL M2 b3) ∧ (¬ (mAI M2 b3 (x1 : Int32).toNatClampNeg) = 3 → DX11_emitOf_155 h x0 x1 x3 s0 M2 Q) ∧
  ((mAI M2 b3 (x1 : Int32).toNatClampNeg) = 3 → E h mdX11_isSaid [.ref x0, .int 3, .long 40] M2 (fun r M5 => mE M2 M5 → ∃ r6 : Int32, r = some (.int r6) ∧ (r6 = 0 → DX11_emitOf_155 h x0 x1 x3 s0 M5 Q) ∧
  (¬ (r6 = 0) → DX11_emitOf_156 h x0 x1 x3 s0 1 M5 Q)))) ∧
  (¬ ((mI M2 x0 6) ≤ 0) → Q none M2))
set_option maxRecDepth 20000 in
set_option maxHeartbeats 2000000 in
theorem VX11_emitOf_116 {h : Nat} {x0 : Nat} {x1 : Int32} {x3 : Int32} {s0 : Int32} {M : Mem} {Q : Option Value → Mem → Prop} (H : DX11_emitOf_116 h x0 x1 x3 s0 M Q) : T (h + 1) mdX11_emitOf 116 [(0, .ref x0), (1, .int x1), (3, .int x3)] [.int s0] M Q := by
  unfold DX11_emitOf_116 at H
  refine xt_istore (lv' := [(4, .int s0), (0, .ref x0), (1, .int x1), (3, .int x3)]) dX11_emitOf_116 (by decide) rfl ?_
  refine xt_aload_n (j := 1) dX11_emitOf_118 rfl rfl ?_
  obtain ⟨ho1, H⟩ := H
  refine xt_callV (h2 := h) (as := []) (st := []) dX11_emitOf_119 (mlX11_377 rfl) rfl ho1.1 ⟨by rw [ho1.2]; rfl, by rw [ho1.2]; decide⟩ (by first | decide | (simp [Value.category]; done)) (Nat.le_refl _) H (fun r M2 HH hE => ?_)
  obtain ⟨hr, H⟩ := HH hE
  subst hr
  have ho1 := ok_E ho1 hE
  show T _ _ _ _ [] _ _
  refine xt_aload_n (j := 1) dX11_emitOf_122 rfl rfl ?_
  refine xt_getI dX11_emitOf_123 (flX11_360 rfl) ft_13_6 ho1.1 ho1.2 ?_
  refine xt_if_le (tgt := 130) dX11_emitOf_126 (by decide) (fun hc => ?_) (fun hc => ?_)
  · have H := H.1 hc
    refine xt_aload_n (j := 1) dX11_emitOf_130 rfl rfl ?_
    obtain ⟨b3, hb, H⟩ := H
    refine xt_getR dX11_emitOf_131 (flX11_96 rfl) ft_13_38 ho1.1 ho1.2 hb ?_
    refine xt_iload_n (j := 2) dX11_emitOf_134 rfl rfl ?_
    obtain ⟨ho4, H⟩ := H
    obtain ⟨hi, H⟩ := H
    refine xt_iald dX11_emitOf_135 ho4.1 ho4.2 hi ?_
    refine xt_iconst (v := 3) dX11_emitOf_136 (by decide) ?_
    refine xt_icmp_ne (tgt := 155) dX11_emitOf_137 (by decide) (fun hc => ?_) (fun hc => ?_)
    · have H := H.1 hc
      exact xt_sub [1, 2, 3, 0] rfl (VX11_emitOf_155 H)
    · have H := H.2 hc
      refine xt_aload_n (j := 1) dX11_emitOf_140 rfl rfl ?_
      refine xt_iconst (v := 3) dX11_emitOf_141 (by decide) ?_
      refine xt_ldc2 (v := 40) dX11_emitOf_142 (ctX11_515 rfl) ?_
      refine xt_callV (h2 := h) (as := [.int 3, .long 40]) (st := []) dX11_emitOf_145 (mlX11_373 rfl) rfl ho1.1 ⟨by rw [ho1.2]; rfl, by rw [ho1.2]; decide⟩ (by first | decide | (simp [Value.category]; done)) (Nat.le_refl _) H (fun r M5 HH hE => ?_)
      obtain ⟨r6, hr, H⟩ := HH hE
      subst hr
      have ho1 := ok_E ho1 hE
      show T _ _ _ _ [.int r6] _ _
      refine xt_if_eq (tgt := 155) dX11_emitOf_148 (by decide) (fun hc => ?_) (fun hc => ?_)
      · have H := H.1 hc
        exact xt_sub [1, 2, 3, 0] rfl (VX11_emitOf_155 H)
      · have H := H.2 hc
        refine xt_iconst (v := 1) dX11_emitOf_151 (by decide) ?_
        refine xt_goto (tgt := 156) dX11_emitOf_152 (by decide) ?_
        exact xt_sub [1, 2, 3, 0] rfl (VX11_emitOf_156 H)
  · have H := H.2 hc
    exact xt_return dX11_emitOf_129 rfl H
def DX11_emitOf_79 (h : Nat) (x0 : Nat) (x1 : Int32) (x2 : Int32) (x3 : Int32) (M : Mem) (Q : Option Value → Mem → Prop) : Prop :=
  ok M x0 13 ∧ ((mI M x0 6) ≤ 0 → ∃ b2 : Nat, mR M x0 40 = some b2 ∧ ok M b2 21 ∧ vp_in x1 (mL M b2) ∧ ∀ M4 : Mem, M4 = wAI M b2 (x1 : Int32).toNatClampNeg x2 →
  ∃ b5 : Nat, mR M4 x0 13 = some b5 ∧ ok M4 b5 21 ∧ vp_in ((16 * (mI M4 x0 19)) + x2) (mL M4 b5) ∧ ((mAI M4 b5 ((16 * (mI M4 x0 19)) + x2 : Int32).toNatClampNeg) ≤ 0 → DX11_emitOf_116 h x0 x1 x3 0 M4 Q) ∧
  (¬ ((mAI M4 b5 ((16 * (mI M4 x0 19)) + x2 : Int32).toNatClampNeg) ≤ 0) → DX11_emitOf_116 h x0 x1 x3 1 M4 Q)) ∧
  (¬ ((mI M x0 6) ≤ 0) → Q none M)
set_option maxRecDepth 20000 in
set_option maxHeartbeats 2000000 in
theorem VX11_emitOf_79 {h : Nat} {x0 : Nat} {x1 : Int32} {x2 : Int32} {x3 : Int32} {M : Mem} {Q : Option Value → Mem → Prop} (H : DX11_emitOf_79 h x0 x1 x2 x3 M Q) : T (h + 1) mdX11_emitOf 79 [(0, .ref x0), (1, .int x1), (2, .int x2), (3, .int x3)] [] M Q := by
  unfold DX11_emitOf_79 at H
  refine xt_aload_n (j := 0) dX11_emitOf_79 rfl rfl ?_
  obtain ⟨ho1, H⟩ := H
  refine xt_getI dX11_emitOf_80 (flX11_360 rfl) ft_13_6 ho1.1 ho1.2 ?_
  refine xt_if_le (tgt := 87) dX11_emitOf_83 (by decide) (fun hc => ?_) (fun hc => ?_)
  · have H := H.1 hc
    refine xt_aload_n (j := 0) dX11_emitOf_87 rfl rfl ?_
    obtain ⟨b2, hb, H⟩ := H
    refine xt_getR dX11_emitOf_88 (flX11_102 rfl) ft_13_40 ho1.1 ho1.2 hb ?_
    refine xt_iload_n (j := 1) dX11_emitOf_91 rfl rfl ?_
    refine xt_iload_n (j := 2) dX11_emitOf_92 rfl rfl ?_
    obtain ⟨ho3, H⟩ := H
    obtain ⟨hi, H⟩ := H
    obtain ⟨M4, eM4⟩ : ∃ z, z = wAI M b2 (x1 : Int32).toNatClampNeg x2 := ⟨_, rfl⟩
    have H := H _ eM4
    refine xt_iast dX11_emitOf_93 ho3.1 ho3.2 hi ?_
    have ho1 : ok M4 x0 13 := by rw [eM4]; exact ho1
    rw [← eM4]
    refine xt_aload_n (j := 0) dX11_emitOf_94 rfl rfl ?_
    obtain ⟨b5, hb, H⟩ := H
    refine xt_getR dX11_emitOf_95 (flX11_38 rfl) ft_13_13 ho1.1 ho1.2 hb ?_
    refine xt_bipush (v := 16) dX11_emitOf_98 (by decide) ?_
    refine xt_aload_n (j := 0) dX11_emitOf_100 rfl rfl ?_
    refine xt_getI dX11_emitOf_101 (flX11_450 rfl) ft_13_19 ho1.1 ho1.2 ?_
    refine xt_imul dX11_emitOf_104 ?_
    refine xt_iload_n (j := 2) dX11_emitOf_105 rfl rfl ?_
    refine xt_iadd dX11_emitOf_106 ?_
    obtain ⟨ho6, H⟩ := H
    obtain ⟨hi, H⟩ := H
    refine xt_iald dX11_emitOf_107 ho6.1 ho6.2 hi ?_
    refine xt_if_le (tgt := 115) dX11_emitOf_108 (by decide) (fun hc => ?_) (fun hc => ?_)
    · have H := H.1 hc
      refine xt_iconst (v := 0) dX11_emitOf_115 (by decide) ?_
      exact xt_sub [0, 1, 3] rfl (VX11_emitOf_116 H)
    · have H := H.2 hc
      refine xt_iconst (v := 1) dX11_emitOf_111 (by decide) ?_
      refine xt_goto (tgt := 116) dX11_emitOf_112 (by decide) ?_
      exact xt_sub [0, 1, 3] rfl (VX11_emitOf_116 H)
  · have H := H.2 hc
    exact xt_return dX11_emitOf_86 rfl H
def DX11_emitOf_73 (h : Nat) (x0 : Nat) (x1 : Int32) (x2 : Int32) (x3 : Int32) (M : Mem) (Q : Option Value → Mem → Prop) : Prop :=
  ok M x0 13 ∧ E h mdX11_fails [.ref x0, .int 4, .int x3] M (fun r M2 => mE M M2 → r = none ∧ DX11_emitOf_79 h x0 x1 x2 x3 M2 Q)
set_option maxRecDepth 20000 in
set_option maxHeartbeats 2000000 in
theorem VX11_emitOf_73 {h : Nat} {x0 : Nat} {x1 : Int32} {x2 : Int32} {x3 : Int32} {M : Mem} {Q : Option Value → Mem → Prop} (H : DX11_emitOf_73 h x0 x1 x2 x3 M Q) : T (h + 1) mdX11_emitOf 73 [(0, .ref x0), (1, .int x1), (2, .int x2), (3, .int x3)] [] M Q := by
  unfold DX11_emitOf_73 at H
  refine xt_aload_n (j := 0) dX11_emitOf_73 rfl rfl ?_
  refine xt_iconst (v := 4) dX11_emitOf_74 (by decide) ?_
  refine xt_iload_n (j := 3) dX11_emitOf_75 rfl rfl ?_
  obtain ⟨ho1, H⟩ := H
  refine xt_callV (h2 := h) (as := [.int 4, .int x3]) (st := []) dX11_emitOf_76 (mlX11_369 rfl) rfl ho1.1 ⟨by rw [ho1.2]; rfl, by rw [ho1.2]; decide⟩ (by first | decide | (simp [Value.category]; done)) (Nat.le_refl _) H (fun r M2 HH hE => ?_)
  obtain ⟨hr, H⟩ := HH hE
  subst hr
  have ho1 := ok_E ho1 hE
  show T _ _ _ _ [] _ _
  exact xt_sub [0, 1, 2, 3] rfl (VX11_emitOf_79 H)
def DX11_emitOf_24 (h : Nat) (x0 : Nat) (x1 : Int32) (s0 : Int32) (M : Mem) (Q : Option Value → Mem → Prop) : Prop :=
  ok M x0 13 ∧ ∃ b2 : Nat, mR M x0 3 = some b2 ∧ ok M b2 21 ∧ vp_in (mI M x0 5) (mL M b2) ∧ E h mdX11_isName [.ref x0] M (fun r M4 => mE M M4 → ∃ r5 : Int32, r = some (.int r5) ∧ (¬ r5 = 0 → (s0 = (-1) → DX11_emitOf_73 h x0 x1 s0 (mAI M b2 (mI M x0 5 : Int32).toNatClampNeg) M4 Q) ∧
  (¬ (s0 = (-1)) → ∃ b6 : Nat, mR M4 x0 12 = some b6 ∧ ok M4 b6 21 ∧ vp_in ((16 * (mI M4 x0 19)) + s0) (mL M4 b6) ∧ (¬ (mAI M4 b6 ((16 * (mI M4 x0 19)) + s0 : Int32).toNatClampNeg) = 0 → DX11_emitOf_79 h x0 x1 s0 (mAI M b2 (mI M x0 5 : Int32).toNatClampNeg) M4 Q) ∧
  ((mAI M4 b6 ((16 * (mI M4 x0 19)) + s0 : Int32).toNatClampNeg) = 0 → DX11_emitOf_73 h x0 x1 s0 (mAI M b2 (mI M x0 5 : Int32).toNatClampNeg) M4 Q))) ∧
  (r5 = 0 → E h mdX11_fails [.ref x0, .int 2, .int (mAI M b2 (mI M x0 5 : Int32).toNatClampNeg)] M4 (fun r M8 => mE M4 M8 → r = none ∧ DX11_emitOf_79 h x0 x1 s0 (mAI M b2 (mI M x0 5 : Int32).toNatClampNeg) M8 Q)))
set_option maxRecDepth 20000 in
set_option maxHeartbeats 2000000 in
theorem VX11_emitOf_24 {h : Nat} {x0 : Nat} {x1 : Int32} {s0 : Int32} {M : Mem} {Q : Option Value → Mem → Prop} (H : DX11_emitOf_24 h x0 x1 s0 M Q) : T (h + 1) mdX11_emitOf 24 [(0, .ref x0), (1, .int x1)] [.int s0] M Q := by
  unfold DX11_emitOf_24 at H
  refine xt_istore_n (lv' := [(2, .int s0), (0, .ref x0), (1, .int x1)]) dX11_emitOf_24 rfl (by decide) rfl ?_
  refine xt_aload_n (j := 1) dX11_emitOf_25 rfl rfl ?_
  obtain ⟨ho1, H⟩ := H
  obtain ⟨b2, hb, H⟩ := H
  refine xt_getR dX11_emitOf_26 (flX11_16 rfl) ft_13_3 ho1.1 ho1.2 hb ?_
  refine xt_aload_n (j := 1) dX11_emitOf_29 rfl rfl ?_
  refine xt_getI dX11_emitOf_30 (flX11_366 rfl) ft_13_5 ho1.1 ho1.2 ?_
  obtain ⟨ho3, H⟩ := H
  obtain ⟨hi, H⟩ := H
  refine xt_iald dX11_emitOf_33 ho3.1 ho3.2 hi ?_
  refine xt_istore_n (lv' := [(3, .int (mAI M b2 (mI M x0 5 : Int32).toNatClampNeg)), (2, .int s0), (0, .ref x0), (1, .int x1)]) dX11_emitOf_34 rfl (by decide) rfl ?_
  refine xt_aload_n (j := 2) dX11_emitOf_35 rfl rfl ?_
  refine xt_callV (h2 := h) (as := []) (st := []) dX11_emitOf_36 (mlX11_468 rfl) rfl ho1.1 ⟨by rw [ho1.2]; rfl, by rw [ho1.2]; decide⟩ (by first | decide | (simp [Value.category]; done)) (Nat.le_refl _) H (fun r M4 HH hE => ?_)
  obtain ⟨r5, hr, H⟩ := HH hE
  subst hr
  have ho1 := ok_E ho1 hE
  show T _ _ _ _ [.int r5] _ _
  refine xt_if_ne (tgt := 51) dX11_emitOf_39 (by decide) (fun hc => ?_) (fun hc => ?_)
  · have H := H.1 hc
    refine xt_iload_n (j := 1) dX11_emitOf_51 rfl rfl ?_
    refine xt_iconst (v := -1) dX11_emitOf_52 (by decide) ?_
    refine xt_icmp_eq (tgt := 73) dX11_emitOf_53 (by decide) (fun hc => ?_) (fun hc => ?_)
    · have H := H.1 hc
      exact xt_sub [2, 3, 1, 0] rfl (VX11_emitOf_73 H)
    · have H := H.2 hc
      refine xt_aload_n (j := 2) dX11_emitOf_56 rfl rfl ?_
      obtain ⟨b6, hb, H⟩ := H
      refine xt_getR dX11_emitOf_57 (flX11_35 rfl) ft_13_12 ho1.1 ho1.2 hb ?_
      refine xt_bipush (v := 16) dX11_emitOf_60 (by decide) ?_
      refine xt_aload_n (j := 2) dX11_emitOf_62 rfl rfl ?_
      refine xt_getI dX11_emitOf_63 (flX11_450 rfl) ft_13_19 ho1.1 ho1.2 ?_
      refine xt_imul dX11_emitOf_66 ?_
      refine xt_iload_n (j := 1) dX11_emitOf_67 rfl rfl ?_
      refine xt_iadd dX11_emitOf_68 ?_
      obtain ⟨ho7, H⟩ := H
      obtain ⟨hi, H⟩ := H
      refine xt_iald dX11_emitOf_69 ho7.1 ho7.2 hi ?_
      refine xt_if_ne (tgt := 79) dX11_emitOf_70 (by decide) (fun hc => ?_) (fun hc => ?_)
      · have H := H.1 hc
        exact xt_sub [2, 3, 1, 0] rfl (VX11_emitOf_79 H)
      · have H := H.2 hc
        exact xt_sub [2, 3, 1, 0] rfl (VX11_emitOf_73 H)
  · have H := H.2 hc
    refine xt_aload_n (j := 2) dX11_emitOf_42 rfl rfl ?_
    refine xt_iconst (v := 2) dX11_emitOf_43 (by decide) ?_
    refine xt_iload_n (j := 0) dX11_emitOf_44 rfl rfl ?_
    refine xt_callV (h2 := h) (as := [.int 2, .int (mAI M b2 (mI M x0 5 : Int32).toNatClampNeg)]) (st := []) dX11_emitOf_45 (mlX11_369 rfl) rfl ho1.1 ⟨by rw [ho1.2]; rfl, by rw [ho1.2]; decide⟩ (by first | decide | (simp [Value.category]; done)) (Nat.le_refl _) H (fun r M8 HH hE => ?_)
    obtain ⟨hr, H⟩ := HH hE
    subst hr
    have ho1 := ok_E ho1 hE
    show T _ _ _ _ [] _ _
    refine xt_goto (tgt := 79) dX11_emitOf_48 (by decide) ?_
    exact xt_sub [2, 3, 1, 0] rfl (VX11_emitOf_79 H)
def DX11_emitOf_0 (h : Nat) (x0 : Nat) (x1 : Int32) (M : Mem) (Q : Option Value → Mem → Prop) : Prop :=
  ok M x0 13 ∧ E h mdX11_isName [.ref x0] M (fun r M2 => mE M M2 → ∃ r3 : Int32, r = some (.int r3) ∧ (r3 = 0 → DX11_emitOf_24 h x0 x1 (-1) M2 Q) ∧
  (¬ (r3 = 0) → ∃ b4 : Nat, mR M2 x0 4 = some b4 ∧ ok M2 b4 23 ∧ vp_in (mI M2 x0 5) (mL M2 b4) ∧ E h mdX11_signalNamed [.ref x0, .long (mAJ M2 b4 (mI M2 x0 5 : Int32).toNatClampNeg)] M2 (fun r M6 => mE M2 M6 → ∃ r7 : Int32, r = some (.int r7) ∧ DX11_emitOf_24 h x0 x1 r7 M6 Q)))
set_option maxRecDepth 20000 in
set_option maxHeartbeats 2000000 in
theorem VX11_emitOf_0 {h : Nat} {x0 : Nat} {x1 : Int32} {M : Mem} {Q : Option Value → Mem → Prop} (H : DX11_emitOf_0 h x0 x1 M Q) : T (h + 1) mdX11_emitOf 0 [(0, .ref x0), (1, .int x1)] [] M Q := by
  unfold DX11_emitOf_0 at H
  refine xt_aload_n (j := 0) dX11_emitOf_0 rfl rfl ?_
  obtain ⟨ho1, H⟩ := H
  refine xt_callV (h2 := h) (as := []) (st := []) dX11_emitOf_1 (mlX11_468 rfl) rfl ho1.1 ⟨by rw [ho1.2]; rfl, by rw [ho1.2]; decide⟩ (by first | decide | (simp [Value.category]; done)) (Nat.le_refl _) H (fun r M2 HH hE => ?_)
  obtain ⟨r3, hr, H⟩ := HH hE
  subst hr
  have ho1 := ok_E ho1 hE
  show T _ _ _ _ [.int r3] _ _
  refine xt_if_eq (tgt := 23) dX11_emitOf_4 (by decide) (fun hc => ?_) (fun hc => ?_)
  · have H := H.1 hc
    refine xt_iconst (v := -1) dX11_emitOf_23 (by decide) ?_
    exact xt_sub [0, 1] rfl (VX11_emitOf_24 H)
  · have H := H.2 hc
    refine xt_aload_n (j := 0) dX11_emitOf_7 rfl rfl ?_
    refine xt_aload_n (j := 0) dX11_emitOf_8 rfl rfl ?_
    obtain ⟨b4, hb, H⟩ := H
    refine xt_getR dX11_emitOf_9 (flX11_19 rfl) ft_13_4 ho1.1 ho1.2 hb ?_
    refine xt_aload_n (j := 0) dX11_emitOf_12 rfl rfl ?_
    refine xt_getI dX11_emitOf_13 (flX11_366 rfl) ft_13_5 ho1.1 ho1.2 ?_
    obtain ⟨ho5, H⟩ := H
    obtain ⟨hi, H⟩ := H
    refine xt_lald dX11_emitOf_16 ho5.1 ho5.2 hi ?_
    refine xt_callV (h2 := h) (as := [.long (mAJ M2 b4 (mI M2 x0 5 : Int32).toNatClampNeg)]) (st := []) dX11_emitOf_17 (mlX11_471 rfl) rfl ho1.1 ⟨by rw [ho1.2]; rfl, by rw [ho1.2]; decide⟩ (by first | decide | (simp [Value.category]; done)) (Nat.le_refl _) H (fun r M6 HH hE => ?_)
    obtain ⟨r7, hr, H⟩ := HH hE
    subst hr
    have ho1 := ok_E ho1 hE
    show T _ _ _ _ [.int r7] _ _
    refine xt_goto (tgt := 24) dX11_emitOf_20 (by decide) ?_
    exact xt_sub [0, 1] rfl (VX11_emitOf_24 H)
theorem KX11_emitOf {h : Nat} {x0 : Nat} {x1 : Int32} {M : Mem} {Q : Option Value → Mem → Prop} (H : DX11_emitOf_0 h x0 x1 M Q) : E (h + 1) mdX11_emitOf [.ref x0, .int x1] M Q := E.of (by decide) (Nat.le_of_ble_eq_true rfl) (fun _ _ _ => trivial) (VX11_emitOf_0 H)
def DX11_isOpenTrap_14 (h : Nat) (s0 : Int32) (M : Mem) (Q : Option Value → Mem → Prop) : Prop :=
  (s0 = 0 ∨ s0 = 1) ∧ Q (some (.int s0)) M
set_option maxRecDepth 20000 in
set_option maxHeartbeats 2000000 in
theorem VX11_isOpenTrap_14 {h : Nat} {s0 : Int32} {M : Mem} {Q : Option Value → Mem → Prop} (H : DX11_isOpenTrap_14 h s0 M Q) : T (h + 1) mdX11_isOpenTrap 14 [] [.int s0] M Q := by
  unfold DX11_isOpenTrap_14 at H
  exact xt_zreturn dX11_isOpenTrap_14 rfl H.1 H.2
def DX11_isOpenTrap_0 (h : Nat) (x0 : Nat) (x1 : Int64) (M : Mem) (Q : Option Value → Mem → Prop) : Prop :=
  ok M x0 13 ∧ E h mdX11_trapNamed [.ref x0, .long x1] M (fun r M2 => mE M M2 → ∃ r3 : Int32, r = some (.int r3) ∧ (r3 = (-1) → DX11_isOpenTrap_14 h 0 M2 Q) ∧
  (¬ (r3 = (-1)) → DX11_isOpenTrap_14 h 1 M2 Q))
set_option maxRecDepth 20000 in
set_option maxHeartbeats 2000000 in
theorem VX11_isOpenTrap_0 {h : Nat} {x0 : Nat} {x1 : Int64} {M : Mem} {Q : Option Value → Mem → Prop} (H : DX11_isOpenTrap_0 h x0 x1 M Q) : T (h + 1) mdX11_isOpenTrap 0 [(0, .ref x0), (1, .long x1)] [] M Q := by
  unfold DX11_isOpenTrap_0 at H
  refine xt_aload_n (j := 0) dX11_isOpenTrap_0 rfl rfl ?_
  refine xt_lload_n (j := 1) dX11_isOpenTrap_1 rfl rfl ?_
  obtain ⟨ho1, H⟩ := H
  refine xt_callV (h2 := h) (as := [.long x1]) (st := []) dX11_isOpenTrap_2 (mlX11_592 rfl) rfl ho1.1 ⟨by rw [ho1.2]; rfl, by rw [ho1.2]; decide⟩ (by first | decide | (simp [Value.category]; done)) (Nat.le_refl _) H (fun r M2 HH hE => ?_)
  obtain ⟨r3, hr, H⟩ := HH hE
  subst hr
  have ho1 := ok_E ho1 hE
  show T _ _ _ _ [.int r3] _ _
  refine xt_iconst (v := -1) dX11_isOpenTrap_5 (by decide) ?_
  refine xt_icmp_eq (tgt := 13) dX11_isOpenTrap_6 (by decide) (fun hc => ?_) (fun hc => ?_)
  · have H := H.1 hc
    refine xt_iconst (v := 0) dX11_isOpenTrap_13 (by decide) ?_
    exact xt_sub [] rfl (VX11_isOpenTrap_14 H)
  · have H := H.2 hc
    refine xt_iconst (v := 1) dX11_isOpenTrap_9 (by decide) ?_
    refine xt_goto (tgt := 14) dX11_isOpenTrap_10 (by decide) ?_
    exact xt_sub [] rfl (VX11_isOpenTrap_14 H)
theorem KX11_isOpenTrap {h : Nat} {x0 : Nat} {x1 : Int64} {M : Mem} {Q : Option Value → Mem → Prop} (H : DX11_isOpenTrap_0 h x0 x1 M Q) : E (h + 1) mdX11_isOpenTrap [.ref x0, .long x1] M Q := E.of (by decide) (Nat.le_of_ble_eq_true rfl) (fun _ _ _ => trivial) (VX11_isOpenTrap_0 H)
def DX11_trapNamed_50 (h : Nat) (x0 : Nat) (x1 : Int64) (x3 : Int32) (M : Mem) (Q : Option Value → Mem → Prop) : Prop :=
  T (h + 1) mdX11_trapNamed 7 [(0, .ref x0), (1, .long x1), (3, .int (x3 + (-1)))] [] M Q
set_option maxRecDepth 20000 in
set_option maxHeartbeats 2000000 in
theorem VX11_trapNamed_50 {h : Nat} {x0 : Nat} {x1 : Int64} {x3 : Int32} {M : Mem} {Q : Option Value → Mem → Prop} (H : DX11_trapNamed_50 h x0 x1 x3 M Q) : T (h + 1) mdX11_trapNamed 50 [(0, .ref x0), (1, .long x1), (3, .int x3)] [] M Q := by
  unfold DX11_trapNamed_50 at H
  refine xt_iinc (j := 2) (v := x3 + (-1)) (lv' := [(3, .int (x3 + (-1))), (0, .ref x0), (1, .long x1)]) dX11_trapNamed_50 rfl (by rfl) (by decide) rfl ?_
  refine xt_goto (tgt := 7) dX11_trapNamed_53 (by decide) ?_
  exact xt_sub (lv' := [(0, .ref x0), (1, .long x1), (3, .int (x3 + (-1)))]) [1, 2, 0] rfl H
def DX11_trapNamed_7 (h : Nat) (x0 : Nat) (x1 : Int64) (x3 : Int32) (M : Mem) (Q : Option Value → Mem → Prop) : Prop :=
  (x3 < 0 → Q (some (.int (-1))) M) ∧
  (¬ (x3 < 0) → ok M x0 13 ∧ ∃ b2 : Nat, mR M x0 38 = some b2 ∧ ∃ b3 : Nat, mR M x0 57 = some b3 ∧ ok M b3 21 ∧ vp_in x3 (mL M b3) ∧ ok M b2 21 ∧ vp_in (mAI M b3 (x3 : Int32).toNatClampNeg) (mL M b2) ∧ (¬ (mAI M b2 (mAI M b3 (x3 : Int32).toNatClampNeg : Int32).toNatClampNeg) = 12 → DX11_trapNamed_50 h x0 x1 x3 M Q) ∧
  ((mAI M b2 (mAI M b3 (x3 : Int32).toNatClampNeg : Int32).toNatClampNeg) = 12 → ∃ b6 : Nat, mR M x0 52 = some b6 ∧ ∃ b7 : Nat, mR M x0 57 = some b7 ∧ ok M b7 21 ∧ vp_in x3 (mL M b7) ∧ ok M b6 23 ∧ vp_in (mAI M b7 (x3 : Int32).toNatClampNeg) (mL M b6) ∧ (¬ (lg_cmp (mAJ M b6 (mAI M b7 (x3 : Int32).toNatClampNeg : Int32).toNatClampNeg) x1) = 0 → DX11_trapNamed_50 h x0 x1 x3 M Q) ∧
  ((lg_cmp (mAJ M b6 (mAI M b7 (x3 : Int32).toNatClampNeg : Int32).toNatClampNeg) x1) = 0 → ∃ b10 : Nat, mR M x0 57 = some b10 ∧ ok M b10 21 ∧ vp_in x3 (mL M b10) ∧ Q (some (.int (mAI M b10 (x3 : Int32).toNatClampNeg))) M)))
set_option maxRecDepth 20000 in
set_option maxHeartbeats 2000000 in
theorem VX11_trapNamed_7 {h : Nat} {x0 : Nat} {x1 : Int64} {x3 : Int32} {M : Mem} {Q : Option Value → Mem → Prop} (H : DX11_trapNamed_7 h x0 x1 x3 M Q) : T (h + 1) mdX11_trapNamed 7 [(0, .ref x0), (1, .long x1), (3, .int x3)] [] M Q := by
  unfold DX11_trapNamed_7 at H
  refine xt_iload_n (j := 2) dX11_trapNamed_7 rfl rfl ?_
  refine xt_if_lt (tgt := 56) dX11_trapNamed_8 (by decide) (fun hc => ?_) (fun hc => ?_)
  · have H := H.1 hc
    refine xt_iconst (v := -1) dX11_trapNamed_56 (by decide) ?_
    exact xt_ireturn dX11_trapNamed_57 rfl H
  · have H := H.2 hc
    refine xt_aload_n (j := 0) dX11_trapNamed_11 rfl rfl ?_
    obtain ⟨ho1, H⟩ := H
    obtain ⟨b2, hb, H⟩ := H
    refine xt_getR dX11_trapNamed_12 (flX11_96 rfl) ft_13_38 ho1.1 ho1.2 hb ?_
    refine xt_aload_n (j := 0) dX11_trapNamed_15 rfl rfl ?_
    obtain ⟨b3, hb, H⟩ := H
    refine xt_getR dX11_trapNamed_16 (flX11_150 rfl) ft_13_57 ho1.1 ho1.2 hb ?_
    refine xt_iload_n (j := 2) dX11_trapNamed_19 rfl rfl ?_
    obtain ⟨ho4, H⟩ := H
    obtain ⟨hi, H⟩ := H
    refine xt_iald dX11_trapNamed_20 ho4.1 ho4.2 hi ?_
    obtain ⟨ho5, H⟩ := H
    obtain ⟨hi, H⟩ := H
    refine xt_iald dX11_trapNamed_21 ho5.1 ho5.2 hi ?_
    refine xt_bipush (v := 12) dX11_trapNamed_22 (by decide) ?_
    refine xt_icmp_ne (tgt := 50) dX11_trapNamed_24 (by decide) (fun hc => ?_) (fun hc => ?_)
    · have H := H.1 hc
      exact xt_sub [0, 1, 2] rfl (VX11_trapNamed_50 H)
    · have H := H.2 hc
      refine xt_aload_n (j := 0) dX11_trapNamed_27 rfl rfl ?_
      obtain ⟨b6, hb, H⟩ := H
      refine xt_getR dX11_trapNamed_28 (flX11_138 rfl) ft_13_52 ho1.1 ho1.2 hb ?_
      refine xt_aload_n (j := 0) dX11_trapNamed_31 rfl rfl ?_
      obtain ⟨b7, hb, H⟩ := H
      refine xt_getR dX11_trapNamed_32 (flX11_150 rfl) ft_13_57 ho1.1 ho1.2 hb ?_
      refine xt_iload_n (j := 2) dX11_trapNamed_35 rfl rfl ?_
      obtain ⟨ho8, H⟩ := H
      obtain ⟨hi, H⟩ := H
      refine xt_iald dX11_trapNamed_36 ho8.1 ho8.2 hi ?_
      obtain ⟨ho9, H⟩ := H
      obtain ⟨hi, H⟩ := H
      refine xt_lald dX11_trapNamed_37 ho9.1 ho9.2 hi ?_
      refine xt_lload_n (j := 1) dX11_trapNamed_38 rfl rfl ?_
      refine xt_lcmp dX11_trapNamed_39 ?_
      refine xt_if_ne (tgt := 50) dX11_trapNamed_40 (by decide) (fun hc => ?_) (fun hc => ?_)
      · have H := H.1 hc
        exact xt_sub [0, 1, 2] rfl (VX11_trapNamed_50 H)
      · have H := H.2 hc
        refine xt_aload_n (j := 0) dX11_trapNamed_43 rfl rfl ?_
        obtain ⟨b10, hb, H⟩ := H
        refine xt_getR dX11_trapNamed_44 (flX11_150 rfl) ft_13_57 ho1.1 ho1.2 hb ?_
        refine xt_iload_n (j := 2) dX11_trapNamed_47 rfl rfl ?_
        obtain ⟨ho11, H⟩ := H
        obtain ⟨hi, H⟩ := H
        refine xt_iald dX11_trapNamed_48 ho11.1 ho11.2 hi ?_
        exact xt_ireturn dX11_trapNamed_49 rfl H
def DX11_trapNamed_0 (h : Nat) (x0 : Nat) (x1 : Int64) (M : Mem) (Q : Option Value → Mem → Prop) : Prop :=
  ok M x0 13 ∧ T (h + 1) mdX11_trapNamed 7 [(0, .ref x0), (1, .long x1), (3, .int ((mI M x0 60) - 1))] [] M Q
set_option maxRecDepth 20000 in
set_option maxHeartbeats 2000000 in
theorem VX11_trapNamed_0 {h : Nat} {x0 : Nat} {x1 : Int64} {M : Mem} {Q : Option Value → Mem → Prop} (H : DX11_trapNamed_0 h x0 x1 M Q) : T (h + 1) mdX11_trapNamed 0 [(0, .ref x0), (1, .long x1)] [] M Q := by
  unfold DX11_trapNamed_0 at H
  refine xt_aload_n (j := 0) dX11_trapNamed_0 rfl rfl ?_
  obtain ⟨ho1, H⟩ := H
  refine xt_getI dX11_trapNamed_1 (flX11_576 rfl) ft_13_60 ho1.1 ho1.2 ?_
  refine xt_iconst (v := 1) dX11_trapNamed_4 (by decide) ?_
  refine xt_isub dX11_trapNamed_5 ?_
  refine xt_istore_n (lv' := [(3, .int ((mI M x0 60) - 1)), (0, .ref x0), (1, .long x1)]) dX11_trapNamed_6 rfl (by decide) rfl ?_
  exact xt_sub (lv' := [(0, .ref x0), (1, .long x1), (3, .int ((mI M x0 60) - 1))]) [1, 2, 0] rfl H
theorem KX11_trapNamed {h : Nat} {x0 : Nat} {x1 : Int64} {M : Mem} {Q : Option Value → Mem → Prop} (H : DX11_trapNamed_0 h x0 x1 M Q) : E (h + 1) mdX11_trapNamed [.ref x0, .long x1] M Q := E.of (by decide) (Nat.le_of_ble_eq_true rfl) (fun _ _ _ => trivial) (VX11_trapNamed_0 H)
def DX11_trapOf_118 (h : Nat) (M : Mem) (Q : Option Value → Mem → Prop) : Prop :=
  Q none M
set_option maxRecDepth 20000 in
set_option maxHeartbeats 2000000 in
theorem VX11_trapOf_118 {h : Nat} {M : Mem} {Q : Option Value → Mem → Prop} (H : DX11_trapOf_118 h  M Q) : T (h + 1) mdX11_trapOf 118 [] [] M Q := by
  unfold DX11_trapOf_118 at H
  exact xt_return dX11_trapOf_118 rfl H
def DX11_trapOf_74 (h : Nat) (x0 : Nat) (M : Mem) (Q : Option Value → Mem → Prop) : Prop :=
  ok M x0 13 ∧ ∃ b2 : Nat, mR M x0 3 = some b2 ∧ ok M b2 21 ∧ vp_in (mI M x0 5) (mL M b2) ∧ E h mdX11_fails [.ref x0, .int 3, .int (mAI M b2 (mI M x0 5 : Int32).toNatClampNeg)] M (fun r M4 => mE M M4 → r = none ∧ DX11_trapOf_118 h  M4 Q)
set_option maxRecDepth 20000 in
set_option maxHeartbeats 2000000 in
theorem VX11_trapOf_74 {h : Nat} {x0 : Nat} {M : Mem} {Q : Option Value → Mem → Prop} (H : DX11_trapOf_74 h x0 M Q) : T (h + 1) mdX11_trapOf 74 [(0, .ref x0)] [] M Q := by
  unfold DX11_trapOf_74 at H
  refine xt_aload_n (j := 0) dX11_trapOf_74 rfl rfl ?_
  refine xt_iconst (v := 3) dX11_trapOf_75 (by decide) ?_
  refine xt_aload_n (j := 0) dX11_trapOf_76 rfl rfl ?_
  obtain ⟨ho1, H⟩ := H
  obtain ⟨b2, hb, H⟩ := H
  refine xt_getR dX11_trapOf_77 (flX11_16 rfl) ft_13_3 ho1.1 ho1.2 hb ?_
  refine xt_aload_n (j := 0) dX11_trapOf_80 rfl rfl ?_
  refine xt_getI dX11_trapOf_81 (flX11_366 rfl) ft_13_5 ho1.1 ho1.2 ?_
  obtain ⟨ho3, H⟩ := H
  obtain ⟨hi, H⟩ := H
  refine xt_iald dX11_trapOf_84 ho3.1 ho3.2 hi ?_
  refine xt_callV (h2 := h) (as := [.int 3, .int (mAI M b2 (mI M x0 5 : Int32).toNatClampNeg)]) (st := []) dX11_trapOf_85 (mlX11_369 rfl) rfl ho1.1 ⟨by rw [ho1.2]; rfl, by rw [ho1.2]; decide⟩ (by first | decide | (simp [Value.category]; done)) (Nat.le_refl _) H (fun r M4 HH hE => ?_)
  obtain ⟨hr, H⟩ := HH hE
  subst hr
  have ho1 := ok_E ho1 hE
  show T _ _ _ _ [] _ _
  refine xt_goto (tgt := 118) dX11_trapOf_88 (by decide) ?_
  exact xt_sub [] rfl (VX11_trapOf_118 H)
def DX11_trapOf_0 (h : Nat) (x0 : Nat) (x1 : Int32) (M : Mem) (Q : Option Value → Mem → Prop) : Prop :=
  ok M x0 13 ∧ E h mdX11_isName [.ref x0] M (fun r M2 => mE M M2 → ∃ r3 : Int32, r = some (.int r3) ∧ (¬ r3 = 0 → ∃ b4 : Nat, mR M2 x0 4 = some b4 ∧ ok M2 b4 23 ∧ vp_in (mI M2 x0 5) (mL M2 b4) ∧ E h mdX11_signalNamed [.ref x0, .long (mAJ M2 b4 (mI M2 x0 5 : Int32).toNatClampNeg)] M2 (fun r M6 => mE M2 M6 → ∃ r7 : Int32, r = some (.int r7) ∧ (¬ r7 = (-1) → DX11_trapOf_74 h x0 M6 Q) ∧
  (r7 = (-1) → ∃ b8 : Nat, mR M6 x0 4 = some b8 ∧ ok M6 b8 23 ∧ vp_in (mI M6 x0 5) (mL M6 b8) ∧ E h mdX11_variableNamed [.ref x0, .long (mAJ M6 b8 (mI M6 x0 5 : Int32).toNatClampNeg)] M6 (fun r M10 => mE M6 M10 → ∃ r11 : Int32, r = some (.int r11) ∧ (¬ r11 = (-1) → DX11_trapOf_74 h x0 M10 Q) ∧
  (r11 = (-1) → ∃ b12 : Nat, mR M10 x0 4 = some b12 ∧ ok M10 b12 23 ∧ vp_in (mI M10 x0 5) (mL M10 b12) ∧ E h mdX11_isOpenTrap [.ref x0, .long (mAJ M10 b12 (mI M10 x0 5 : Int32).toNatClampNeg)] M10 (fun r M14 => mE M10 M14 → ∃ r15 : Int32, r = some (.int r15) ∧ (r15 = 0 → ∃ b16 : Nat, mR M14 x0 52 = some b16 ∧ ∃ b17 : Nat, mR M14 x0 4 = some b17 ∧ ok M14 b17 23 ∧ vp_in (mI M14 x0 5) (mL M14 b17) ∧ ok M14 b16 23 ∧ vp_in x1 (mL M14 b16) ∧ ∀ M20 : Mem, M20 = wAJ M14 b16 (x1 : Int32).toNatClampNeg (mAJ M14 b17 (mI M14 x0 5 : Int32).toNatClampNeg) →
  E h mdX11_take [.ref x0] M20 (fun r M21 => mE M20 M21 → r = none ∧ E h mdX11_want [.ref x0, .int 1, .long 257] M21 (fun r M22 => mE M21 M22 → r = none ∧ DX11_trapOf_118 h  M22 Q))) ∧
  (¬ (r15 = 0) → DX11_trapOf_74 h x0 M14 Q))))))) ∧
  (r3 = 0 → ∃ b23 : Nat, mR M2 x0 3 = some b23 ∧ ok M2 b23 21 ∧ vp_in (mI M2 x0 5) (mL M2 b23) ∧ E h mdX11_fails [.ref x0, .int 2, .int (mAI M2 b23 (mI M2 x0 5 : Int32).toNatClampNeg)] M2 (fun r M25 => mE M2 M25 → r = none ∧ DX11_trapOf_118 h  M25 Q)))
set_option maxRecDepth 20000 in
set_option maxHeartbeats 2000000 in
theorem VX11_trapOf_0 {h : Nat} {x0 : Nat} {x1 : Int32} {M : Mem} {Q : Option Value → Mem → Prop} (H : DX11_trapOf_0 h x0 x1 M Q) : T (h + 1) mdX11_trapOf 0 [(0, .ref x0), (1, .int x1)] [] M Q := by
  unfold DX11_trapOf_0 at H
  refine xt_aload_n (j := 0) dX11_trapOf_0 rfl rfl ?_
  obtain ⟨ho1, H⟩ := H
  refine xt_callV (h2 := h) (as := []) (st := []) dX11_trapOf_1 (mlX11_468 rfl) rfl ho1.1 ⟨by rw [ho1.2]; rfl, by rw [ho1.2]; decide⟩ (by first | decide | (simp [Value.category]; done)) (Nat.le_refl _) H (fun r M2 HH hE => ?_)
  obtain ⟨r3, hr, H⟩ := HH hE
  subst hr
  have ho1 := ok_E ho1 hE
  show T _ _ _ _ [.int r3] _ _
  refine xt_if_ne (tgt := 24) dX11_trapOf_4 (by decide) (fun hc => ?_) (fun hc => ?_)
  · have H := H.1 hc
    refine xt_aload_n (j := 0) dX11_trapOf_24 rfl rfl ?_
    refine xt_aload_n (j := 0) dX11_trapOf_25 rfl rfl ?_
    obtain ⟨b4, hb, H⟩ := H
    refine xt_getR dX11_trapOf_26 (flX11_19 rfl) ft_13_4 ho1.1 ho1.2 hb ?_
    refine xt_aload_n (j := 0) dX11_trapOf_29 rfl rfl ?_
    refine xt_getI dX11_trapOf_30 (flX11_366 rfl) ft_13_5 ho1.1 ho1.2 ?_
    obtain ⟨ho5, H⟩ := H
    obtain ⟨hi, H⟩ := H
    refine xt_lald dX11_trapOf_33 ho5.1 ho5.2 hi ?_
    refine xt_callV (h2 := h) (as := [.long (mAJ M2 b4 (mI M2 x0 5 : Int32).toNatClampNeg)]) (st := []) dX11_trapOf_34 (mlX11_471 rfl) rfl ho1.1 ⟨by rw [ho1.2]; rfl, by rw [ho1.2]; decide⟩ (by first | decide | (simp [Value.category]; done)) (Nat.le_refl _) H (fun r M6 HH hE => ?_)
    obtain ⟨r7, hr, H⟩ := HH hE
    subst hr
    have ho1 := ok_E ho1 hE
    show T _ _ _ _ [.int r7] _ _
    refine xt_iconst (v := -1) dX11_trapOf_37 (by decide) ?_
    refine xt_icmp_ne (tgt := 74) dX11_trapOf_38 (by decide) (fun hc => ?_) (fun hc => ?_)
    · have H := H.1 hc
      exact xt_sub [0] rfl (VX11_trapOf_74 H)
    · have H := H.2 hc
      refine xt_aload_n (j := 0) dX11_trapOf_41 rfl rfl ?_
      refine xt_aload_n (j := 0) dX11_trapOf_42 rfl rfl ?_
      obtain ⟨b8, hb, H⟩ := H
      refine xt_getR dX11_trapOf_43 (flX11_19 rfl) ft_13_4 ho1.1 ho1.2 hb ?_
      refine xt_aload_n (j := 0) dX11_trapOf_46 rfl rfl ?_
      refine xt_getI dX11_trapOf_47 (flX11_366 rfl) ft_13_5 ho1.1 ho1.2 ?_
      obtain ⟨ho9, H⟩ := H
      obtain ⟨hi, H⟩ := H
      refine xt_lald dX11_trapOf_50 ho9.1 ho9.2 hi ?_
      refine xt_callV (h2 := h) (as := [.long (mAJ M6 b8 (mI M6 x0 5 : Int32).toNatClampNeg)]) (st := []) dX11_trapOf_51 (mlX11_475 rfl) rfl ho1.1 ⟨by rw [ho1.2]; rfl, by rw [ho1.2]; decide⟩ (by first | decide | (simp [Value.category]; done)) (Nat.le_refl _) H (fun r M10 HH hE => ?_)
      obtain ⟨r11, hr, H⟩ := HH hE
      subst hr
      have ho1 := ok_E ho1 hE
      show T _ _ _ _ [.int r11] _ _
      refine xt_iconst (v := -1) dX11_trapOf_54 (by decide) ?_
      refine xt_icmp_ne (tgt := 74) dX11_trapOf_55 (by decide) (fun hc => ?_) (fun hc => ?_)
      · have H := H.1 hc
        exact xt_sub [0] rfl (VX11_trapOf_74 H)
      · have H := H.2 hc
        refine xt_aload_n (j := 0) dX11_trapOf_58 rfl rfl ?_
        refine xt_aload_n (j := 0) dX11_trapOf_59 rfl rfl ?_
        obtain ⟨b12, hb, H⟩ := H
        refine xt_getR dX11_trapOf_60 (flX11_19 rfl) ft_13_4 ho1.1 ho1.2 hb ?_
        refine xt_aload_n (j := 0) dX11_trapOf_63 rfl rfl ?_
        refine xt_getI dX11_trapOf_64 (flX11_366 rfl) ft_13_5 ho1.1 ho1.2 ?_
        obtain ⟨ho13, H⟩ := H
        obtain ⟨hi, H⟩ := H
        refine xt_lald dX11_trapOf_67 ho13.1 ho13.2 hi ?_
        refine xt_callV (h2 := h) (as := [.long (mAJ M10 b12 (mI M10 x0 5 : Int32).toNatClampNeg)]) (st := []) dX11_trapOf_68 (mlX11_595 rfl) rfl ho1.1 ⟨by rw [ho1.2]; rfl, by rw [ho1.2]; decide⟩ (by first | decide | (simp [Value.category]; done)) (Nat.le_refl _) H (fun r M14 HH hE => ?_)
        obtain ⟨r15, hr, H⟩ := HH hE
        subst hr
        have ho1 := ok_E ho1 hE
        show T _ _ _ _ [.int r15] _ _
        refine xt_if_eq (tgt := 91) dX11_trapOf_71 (by decide) (fun hc => ?_) (fun hc => ?_)
        · have H := H.1 hc
          refine xt_aload_n (j := 0) dX11_trapOf_91 rfl rfl ?_
          obtain ⟨b16, hb, H⟩ := H
          refine xt_getR dX11_trapOf_92 (flX11_138 rfl) ft_13_52 ho1.1 ho1.2 hb ?_
          refine xt_iload_n (j := 1) dX11_trapOf_95 rfl rfl ?_
          refine xt_aload_n (j := 0) dX11_trapOf_96 rfl rfl ?_
          obtain ⟨b17, hb, H⟩ := H
          refine xt_getR dX11_trapOf_97 (flX11_19 rfl) ft_13_4 ho1.1 ho1.2 hb ?_
          refine xt_aload_n (j := 0) dX11_trapOf_100 rfl rfl ?_
          refine xt_getI dX11_trapOf_101 (flX11_366 rfl) ft_13_5 ho1.1 ho1.2 ?_
          obtain ⟨ho18, H⟩ := H
          obtain ⟨hi, H⟩ := H
          refine xt_lald dX11_trapOf_104 ho18.1 ho18.2 hi ?_
          obtain ⟨ho19, H⟩ := H
          obtain ⟨hi, H⟩ := H
          obtain ⟨M20, eM20⟩ : ∃ z, z = wAJ M14 b16 (x1 : Int32).toNatClampNeg (mAJ M14 b17 (mI M14 x0 5 : Int32).toNatClampNeg) := ⟨_, rfl⟩
          have H := H _ eM20
          refine xt_last dX11_trapOf_105 ho19.1 ho19.2 hi ?_
          have ho1 : ok M20 x0 13 := by rw [eM20]; exact ho1
          rw [← eM20]
          refine xt_aload_n (j := 0) dX11_trapOf_106 rfl rfl ?_
          refine xt_callV (h2 := h) (as := []) (st := []) dX11_trapOf_107 (mlX11_377 rfl) rfl ho1.1 ⟨by rw [ho1.2]; rfl, by rw [ho1.2]; decide⟩ (by first | decide | (simp [Value.category]; done)) (Nat.le_refl _) H (fun r M21 HH hE => ?_)
          obtain ⟨hr, H⟩ := HH hE
          subst hr
          have ho1 := ok_E ho1 hE
          show T _ _ _ _ [] _ _
          refine xt_aload_n (j := 0) dX11_trapOf_110 rfl rfl ?_
          refine xt_iconst (v := 1) dX11_trapOf_111 (by decide) ?_
          refine xt_ldc2 (v := 257) dX11_trapOf_112 (ctX11_436 rfl) ?_
          refine xt_callV (h2 := h) (as := [.int 1, .long 257]) (st := []) dX11_trapOf_115 (mlX11_464 rfl) rfl ho1.1 ⟨by rw [ho1.2]; rfl, by rw [ho1.2]; decide⟩ (by first | decide | (simp [Value.category]; done)) (Nat.le_refl _) H (fun r M22 HH hE => ?_)
          obtain ⟨hr, H⟩ := HH hE
          subst hr
          have ho1 := ok_E ho1 hE
          show T _ _ _ _ [] _ _
          exact xt_sub [] rfl (VX11_trapOf_118 H)
        · have H := H.2 hc
          exact xt_sub [0] rfl (VX11_trapOf_74 H)
  · have H := H.2 hc
    refine xt_aload_n (j := 0) dX11_trapOf_7 rfl rfl ?_
    refine xt_iconst (v := 2) dX11_trapOf_8 (by decide) ?_
    refine xt_aload_n (j := 0) dX11_trapOf_9 rfl rfl ?_
    obtain ⟨b23, hb, H⟩ := H
    refine xt_getR dX11_trapOf_10 (flX11_16 rfl) ft_13_3 ho1.1 ho1.2 hb ?_
    refine xt_aload_n (j := 0) dX11_trapOf_13 rfl rfl ?_
    refine xt_getI dX11_trapOf_14 (flX11_366 rfl) ft_13_5 ho1.1 ho1.2 ?_
    obtain ⟨ho24, H⟩ := H
    obtain ⟨hi, H⟩ := H
    refine xt_iald dX11_trapOf_17 ho24.1 ho24.2 hi ?_
    refine xt_callV (h2 := h) (as := [.int 2, .int (mAI M2 b23 (mI M2 x0 5 : Int32).toNatClampNeg)]) (st := []) dX11_trapOf_18 (mlX11_369 rfl) rfl ho1.1 ⟨by rw [ho1.2]; rfl, by rw [ho1.2]; decide⟩ (by first | decide | (simp [Value.category]; done)) (Nat.le_refl _) H (fun r M25 HH hE => ?_)
    obtain ⟨hr, H⟩ := HH hE
    subst hr
    have ho1 := ok_E ho1 hE
    show T _ _ _ _ [] _ _
    refine xt_goto (tgt := 118) dX11_trapOf_21 (by decide) ?_
    exact xt_sub [] rfl (VX11_trapOf_118 H)
theorem KX11_trapOf {h : Nat} {x0 : Nat} {x1 : Int32} {M : Mem} {Q : Option Value → Mem → Prop} (H : DX11_trapOf_0 h x0 x1 M Q) : E (h + 1) mdX11_trapOf [.ref x0, .int x1] M Q := E.of (by decide) (Nat.le_of_ble_eq_true rfl) (fun _ _ _ => trivial) (VX11_trapOf_0 H)
def DX11_exitOf_81 (h : Nat) (M : Mem) (Q : Option Value → Mem → Prop) : Prop :=
  Q none M
set_option maxRecDepth 20000 in
set_option maxHeartbeats 2000000 in
theorem VX11_exitOf_81 {h : Nat} {M : Mem} {Q : Option Value → Mem → Prop} (H : DX11_exitOf_81 h  M Q) : T (h + 1) mdX11_exitOf 81 [] [] M Q := by
  unfold DX11_exitOf_81 at H
  exact xt_return dX11_exitOf_81 rfl H
def DX11_exitOf_0 (h : Nat) (x0 : Nat) (x1 : Int32) (M : Mem) (Q : Option Value → Mem → Prop) : Prop :=
  ok M x0 13 ∧ E h mdX11_isName [.ref x0] M (fun r M2 => mE M M2 → ∃ r3 : Int32, r = some (.int r3) ∧ (¬ r3 = 0 → ∃ b4 : Nat, mR M2 x0 4 = some b4 ∧ ok M2 b4 23 ∧ vp_in (mI M2 x0 5) (mL M2 b4) ∧ E h mdX11_trapNamed [.ref x0, .long (mAJ M2 b4 (mI M2 x0 5 : Int32).toNatClampNeg)] M2 (fun r M6 => mE M2 M6 → ∃ r7 : Int32, r = some (.int r7) ∧ (¬ r7 = (-1) → ∃ b8 : Nat, mR M6 x0 40 = some b8 ∧ ∃ b9 : Nat, mR M6 x0 4 = some b9 ∧ ok M6 b9 23 ∧ vp_in (mI M6 x0 5) (mL M6 b9) ∧ E h mdX11_trapNamed [.ref x0, .long (mAJ M6 b9 (mI M6 x0 5 : Int32).toNatClampNeg)] M6 (fun r M11 => mE M6 M11 → ∃ r12 : Int32, r = some (.int r12) ∧ ok M11 b8 21 ∧ vp_in x1 (mL M11 b8) ∧ ∀ M14 : Mem, M14 = wAI M11 b8 (x1 : Int32).toNatClampNeg r12 →
  E h mdX11_take [.ref x0] M14 (fun r M15 => mE M14 M15 → r = none ∧ DX11_exitOf_81 h  M15 Q))) ∧
  (r7 = (-1) → ∃ b16 : Nat, mR M6 x0 3 = some b16 ∧ ok M6 b16 21 ∧ vp_in (mI M6 x0 5) (mL M6 b16) ∧ E h mdX11_fails [.ref x0, .int 4, .int (mAI M6 b16 (mI M6 x0 5 : Int32).toNatClampNeg)] M6 (fun r M18 => mE M6 M18 → r = none ∧ DX11_exitOf_81 h  M18 Q)))) ∧
  (r3 = 0 → ∃ b19 : Nat, mR M2 x0 3 = some b19 ∧ ok M2 b19 21 ∧ vp_in (mI M2 x0 5) (mL M2 b19) ∧ E h mdX11_fails [.ref x0, .int 2, .int (mAI M2 b19 (mI M2 x0 5 : Int32).toNatClampNeg)] M2 (fun r M21 => mE M2 M21 → r = none ∧ DX11_exitOf_81 h  M21 Q)))
set_option maxRecDepth 20000 in
set_option maxHeartbeats 2000000 in
theorem VX11_exitOf_0 {h : Nat} {x0 : Nat} {x1 : Int32} {M : Mem} {Q : Option Value → Mem → Prop} (H : DX11_exitOf_0 h x0 x1 M Q) : T (h + 1) mdX11_exitOf 0 [(0, .ref x0), (1, .int x1)] [] M Q := by
  unfold DX11_exitOf_0 at H
  refine xt_aload_n (j := 0) dX11_exitOf_0 rfl rfl ?_
  obtain ⟨ho1, H⟩ := H
  refine xt_callV (h2 := h) (as := []) (st := []) dX11_exitOf_1 (mlX11_468 rfl) rfl ho1.1 ⟨by rw [ho1.2]; rfl, by rw [ho1.2]; decide⟩ (by first | decide | (simp [Value.category]; done)) (Nat.le_refl _) H (fun r M2 HH hE => ?_)
  obtain ⟨r3, hr, H⟩ := HH hE
  subst hr
  have ho1 := ok_E ho1 hE
  show T _ _ _ _ [.int r3] _ _
  refine xt_if_ne (tgt := 24) dX11_exitOf_4 (by decide) (fun hc => ?_) (fun hc => ?_)
  · have H := H.1 hc
    refine xt_aload_n (j := 0) dX11_exitOf_24 rfl rfl ?_
    refine xt_aload_n (j := 0) dX11_exitOf_25 rfl rfl ?_
    obtain ⟨b4, hb, H⟩ := H
    refine xt_getR dX11_exitOf_26 (flX11_19 rfl) ft_13_4 ho1.1 ho1.2 hb ?_
    refine xt_aload_n (j := 0) dX11_exitOf_29 rfl rfl ?_
    refine xt_getI dX11_exitOf_30 (flX11_366 rfl) ft_13_5 ho1.1 ho1.2 ?_
    obtain ⟨ho5, H⟩ := H
    obtain ⟨hi, H⟩ := H
    refine xt_lald dX11_exitOf_33 ho5.1 ho5.2 hi ?_
    refine xt_callV (h2 := h) (as := [.long (mAJ M2 b4 (mI M2 x0 5 : Int32).toNatClampNeg)]) (st := []) dX11_exitOf_34 (mlX11_592 rfl) rfl ho1.1 ⟨by rw [ho1.2]; rfl, by rw [ho1.2]; decide⟩ (by first | decide | (simp [Value.category]; done)) (Nat.le_refl _) H (fun r M6 HH hE => ?_)
    obtain ⟨r7, hr, H⟩ := HH hE
    subst hr
    have ho1 := ok_E ho1 hE
    show T _ _ _ _ [.int r7] _ _
    refine xt_iconst (v := -1) dX11_exitOf_37 (by decide) ?_
    refine xt_icmp_ne (tgt := 58) dX11_exitOf_38 (by decide) (fun hc => ?_) (fun hc => ?_)
    · have H := H.1 hc
      refine xt_aload_n (j := 0) dX11_exitOf_58 rfl rfl ?_
      obtain ⟨b8, hb, H⟩ := H
      refine xt_getR dX11_exitOf_59 (flX11_102 rfl) ft_13_40 ho1.1 ho1.2 hb ?_
      refine xt_iload_n (j := 1) dX11_exitOf_62 rfl rfl ?_
      refine xt_aload_n (j := 0) dX11_exitOf_63 rfl rfl ?_
      refine xt_aload_n (j := 0) dX11_exitOf_64 rfl rfl ?_
      obtain ⟨b9, hb, H⟩ := H
      refine xt_getR dX11_exitOf_65 (flX11_19 rfl) ft_13_4 ho1.1 ho1.2 hb ?_
      refine xt_aload_n (j := 0) dX11_exitOf_68 rfl rfl ?_
      refine xt_getI dX11_exitOf_69 (flX11_366 rfl) ft_13_5 ho1.1 ho1.2 ?_
      obtain ⟨ho10, H⟩ := H
      obtain ⟨hi, H⟩ := H
      refine xt_lald dX11_exitOf_72 ho10.1 ho10.2 hi ?_
      refine xt_callV (h2 := h) (as := [.long (mAJ M6 b9 (mI M6 x0 5 : Int32).toNatClampNeg)]) (st := [.int x1, .ref b8]) dX11_exitOf_73 (mlX11_592 rfl) rfl ho1.1 ⟨by rw [ho1.2]; rfl, by rw [ho1.2]; decide⟩ (by first | decide | (simp [Value.category]; done)) (Nat.le_refl _) H (fun r M11 HH hE => ?_)
      obtain ⟨r12, hr, H⟩ := HH hE
      subst hr
      have ho1 := ok_E ho1 hE
      show T _ _ _ _ [.int r12, .int x1, .ref b8] _ _
      obtain ⟨ho13, H⟩ := H
      obtain ⟨hi, H⟩ := H
      obtain ⟨M14, eM14⟩ : ∃ z, z = wAI M11 b8 (x1 : Int32).toNatClampNeg r12 := ⟨_, rfl⟩
      have H := H _ eM14
      refine xt_iast dX11_exitOf_76 ho13.1 ho13.2 hi ?_
      have ho1 : ok M14 x0 13 := by rw [eM14]; exact ho1
      rw [← eM14]
      refine xt_aload_n (j := 0) dX11_exitOf_77 rfl rfl ?_
      refine xt_callV (h2 := h) (as := []) (st := []) dX11_exitOf_78 (mlX11_377 rfl) rfl ho1.1 ⟨by rw [ho1.2]; rfl, by rw [ho1.2]; decide⟩ (by first | decide | (simp [Value.category]; done)) (Nat.le_refl _) H (fun r M15 HH hE => ?_)
      obtain ⟨hr, H⟩ := HH hE
      subst hr
      have ho1 := ok_E ho1 hE
      show T _ _ _ _ [] _ _
      exact xt_sub [] rfl (VX11_exitOf_81 H)
    · have H := H.2 hc
      refine xt_aload_n (j := 0) dX11_exitOf_41 rfl rfl ?_
      refine xt_iconst (v := 4) dX11_exitOf_42 (by decide) ?_
      refine xt_aload_n (j := 0) dX11_exitOf_43 rfl rfl ?_
      obtain ⟨b16, hb, H⟩ := H
      refine xt_getR dX11_exitOf_44 (flX11_16 rfl) ft_13_3 ho1.1 ho1.2 hb ?_
      refine xt_aload_n (j := 0) dX11_exitOf_47 rfl rfl ?_
      refine xt_getI dX11_exitOf_48 (flX11_366 rfl) ft_13_5 ho1.1 ho1.2 ?_
      obtain ⟨ho17, H⟩ := H
      obtain ⟨hi, H⟩ := H
      refine xt_iald dX11_exitOf_51 ho17.1 ho17.2 hi ?_
      refine xt_callV (h2 := h) (as := [.int 4, .int (mAI M6 b16 (mI M6 x0 5 : Int32).toNatClampNeg)]) (st := []) dX11_exitOf_52 (mlX11_369 rfl) rfl ho1.1 ⟨by rw [ho1.2]; rfl, by rw [ho1.2]; decide⟩ (by first | decide | (simp [Value.category]; done)) (Nat.le_refl _) H (fun r M18 HH hE => ?_)
      obtain ⟨hr, H⟩ := HH hE
      subst hr
      have ho1 := ok_E ho1 hE
      show T _ _ _ _ [] _ _
      refine xt_goto (tgt := 81) dX11_exitOf_55 (by decide) ?_
      exact xt_sub [] rfl (VX11_exitOf_81 H)
  · have H := H.2 hc
    refine xt_aload_n (j := 0) dX11_exitOf_7 rfl rfl ?_
    refine xt_iconst (v := 2) dX11_exitOf_8 (by decide) ?_
    refine xt_aload_n (j := 0) dX11_exitOf_9 rfl rfl ?_
    obtain ⟨b19, hb, H⟩ := H
    refine xt_getR dX11_exitOf_10 (flX11_16 rfl) ft_13_3 ho1.1 ho1.2 hb ?_
    refine xt_aload_n (j := 0) dX11_exitOf_13 rfl rfl ?_
    refine xt_getI dX11_exitOf_14 (flX11_366 rfl) ft_13_5 ho1.1 ho1.2 ?_
    obtain ⟨ho20, H⟩ := H
    obtain ⟨hi, H⟩ := H
    refine xt_iald dX11_exitOf_17 ho20.1 ho20.2 hi ?_
    refine xt_callV (h2 := h) (as := [.int 2, .int (mAI M2 b19 (mI M2 x0 5 : Int32).toNatClampNeg)]) (st := []) dX11_exitOf_18 (mlX11_369 rfl) rfl ho1.1 ⟨by rw [ho1.2]; rfl, by rw [ho1.2]; decide⟩ (by first | decide | (simp [Value.category]; done)) (Nat.le_refl _) H (fun r M21 HH hE => ?_)
    obtain ⟨hr, H⟩ := HH hE
    subst hr
    have ho1 := ok_E ho1 hE
    show T _ _ _ _ [] _ _
    refine xt_goto (tgt := 81) dX11_exitOf_21 (by decide) ?_
    exact xt_sub [] rfl (VX11_exitOf_81 H)
theorem KX11_exitOf {h : Nat} {x0 : Nat} {x1 : Int32} {M : Mem} {Q : Option Value → Mem → Prop} (H : DX11_exitOf_0 h x0 x1 M Q) : E (h + 1) mdX11_exitOf [.ref x0, .int x1] M Q := E.of (by decide) (Nat.le_of_ble_eq_true rfl) (fun _ _ _ => trivial) (VX11_exitOf_0 H)
def DX11_relation_100 (h : Nat) (s0 : Int32) (M : Mem) (Q : Option Value → Mem → Prop) : Prop :=
  Q (some (.int s0)) M
set_option maxRecDepth 20000 in
set_option maxHeartbeats 2000000 in
theorem VX11_relation_100 {h : Nat} {s0 : Int32} {M : Mem} {Q : Option Value → Mem → Prop} (H : DX11_relation_100 h s0 M Q) : T (h + 1) mdX11_relation 100 [] [.int s0] M Q := by
  unfold DX11_relation_100 at H
  exact xt_ireturn dX11_relation_100 rfl H
def DX11_relation_26 (h : Nat) (s0 : Int64) (M : Mem) (Q : Option Value → Mem → Prop) : Prop :=
  (¬ (lg_cmp s0 61) = 0 → (¬ (lg_cmp s0 8509) = 0 → (¬ (lg_cmp s0 60) = 0 → (¬ (lg_cmp s0 15421) = 0 → (¬ (lg_cmp s0 62) = 0 → (¬ (lg_cmp s0 15933) = 0 → DX11_relation_100 h (-1) M Q) ∧
  ((lg_cmp s0 15933) = 0 → DX11_relation_100 h 5 M Q)) ∧
  ((lg_cmp s0 62) = 0 → DX11_relation_100 h 4 M Q)) ∧
  ((lg_cmp s0 15421) = 0 → DX11_relation_100 h 3 M Q)) ∧
  ((lg_cmp s0 60) = 0 → DX11_relation_100 h 2 M Q)) ∧
  ((lg_cmp s0 8509) = 0 → DX11_relation_100 h 1 M Q)) ∧
  ((lg_cmp s0 61) = 0 → DX11_relation_100 h 0 M Q)
set_option maxRecDepth 20000 in
set_option maxHeartbeats 2000000 in
theorem VX11_relation_26 {h : Nat} {s0 : Int64} {M : Mem} {Q : Option Value → Mem → Prop} (H : DX11_relation_26 h s0 M Q) : T (h + 1) mdX11_relation 26 [] [.long s0] M Q := by
  unfold DX11_relation_26 at H
  refine xt_lstore_n (lv' := [(1, .long s0)]) dX11_relation_26 rfl (by decide) rfl ?_
  refine xt_lload_n (j := 0) dX11_relation_27 rfl rfl ?_
  refine xt_ldc2 (v := 61) dX11_relation_28 (ctX11_599 rfl) ?_
  refine xt_lcmp dX11_relation_31 ?_
  refine xt_if_ne (tgt := 39) dX11_relation_32 (by decide) (fun hc => ?_) (fun hc => ?_)
  · have H := H.1 hc
    refine xt_lload_n (j := 0) dX11_relation_39 rfl rfl ?_
    refine xt_ldc2 (v := 8509) dX11_relation_40 (ctX11_601 rfl) ?_
    refine xt_lcmp dX11_relation_43 ?_
    refine xt_if_ne (tgt := 51) dX11_relation_44 (by decide) (fun hc => ?_) (fun hc => ?_)
    · have H := H.1 hc
      refine xt_lload_n (j := 0) dX11_relation_51 rfl rfl ?_
      refine xt_ldc2 (v := 60) dX11_relation_52 (ctX11_603 rfl) ?_
      refine xt_lcmp dX11_relation_55 ?_
      refine xt_if_ne (tgt := 63) dX11_relation_56 (by decide) (fun hc => ?_) (fun hc => ?_)
      · have H := H.1 hc
        refine xt_lload_n (j := 0) dX11_relation_63 rfl rfl ?_
        refine xt_ldc2 (v := 15421) dX11_relation_64 (ctX11_605 rfl) ?_
        refine xt_lcmp dX11_relation_67 ?_
        refine xt_if_ne (tgt := 75) dX11_relation_68 (by decide) (fun hc => ?_) (fun hc => ?_)
        · have H := H.1 hc
          refine xt_lload_n (j := 0) dX11_relation_75 rfl rfl ?_
          refine xt_ldc2 (v := 62) dX11_relation_76 (ctX11_607 rfl) ?_
          refine xt_lcmp dX11_relation_79 ?_
          refine xt_if_ne (tgt := 87) dX11_relation_80 (by decide) (fun hc => ?_) (fun hc => ?_)
          · have H := H.1 hc
            refine xt_lload_n (j := 0) dX11_relation_87 rfl rfl ?_
            refine xt_ldc2 (v := 15933) dX11_relation_88 (ctX11_609 rfl) ?_
            refine xt_lcmp dX11_relation_91 ?_
            refine xt_if_ne (tgt := 99) dX11_relation_92 (by decide) (fun hc => ?_) (fun hc => ?_)
            · have H := H.1 hc
              refine xt_iconst (v := -1) dX11_relation_99 (by decide) ?_
              exact xt_sub [] rfl (VX11_relation_100 H)
            · have H := H.2 hc
              refine xt_iconst (v := 5) dX11_relation_95 (by decide) ?_
              refine xt_goto (tgt := 100) dX11_relation_96 (by decide) ?_
              exact xt_sub [] rfl (VX11_relation_100 H)
          · have H := H.2 hc
            refine xt_iconst (v := 4) dX11_relation_83 (by decide) ?_
            refine xt_goto (tgt := 100) dX11_relation_84 (by decide) ?_
            exact xt_sub [] rfl (VX11_relation_100 H)
        · have H := H.2 hc
          refine xt_iconst (v := 3) dX11_relation_71 (by decide) ?_
          refine xt_goto (tgt := 100) dX11_relation_72 (by decide) ?_
          exact xt_sub [] rfl (VX11_relation_100 H)
      · have H := H.2 hc
        refine xt_iconst (v := 2) dX11_relation_59 (by decide) ?_
        refine xt_goto (tgt := 100) dX11_relation_60 (by decide) ?_
        exact xt_sub [] rfl (VX11_relation_100 H)
    · have H := H.2 hc
      refine xt_iconst (v := 1) dX11_relation_47 (by decide) ?_
      refine xt_goto (tgt := 100) dX11_relation_48 (by decide) ?_
      exact xt_sub [] rfl (VX11_relation_100 H)
  · have H := H.2 hc
    refine xt_iconst (v := 0) dX11_relation_35 (by decide) ?_
    refine xt_goto (tgt := 100) dX11_relation_36 (by decide) ?_
    exact xt_sub [] rfl (VX11_relation_100 H)
def DX11_relation_0 (h : Nat) (x0 : Nat) (M : Mem) (Q : Option Value → Mem → Prop) : Prop :=
  ok M x0 13 ∧ ∃ b2 : Nat, mR M x0 2 = some b2 ∧ ok M b2 21 ∧ vp_in (mI M x0 5) (mL M b2) ∧ (¬ (mAI M b2 (mI M x0 5 : Int32).toNatClampNeg) = 3 → DX11_relation_26 h 0 M Q) ∧
  ((mAI M b2 (mI M x0 5 : Int32).toNatClampNeg) = 3 → ∃ b4 : Nat, mR M x0 4 = some b4 ∧ ok M b4 23 ∧ vp_in (mI M x0 5) (mL M b4) ∧ DX11_relation_26 h (mAJ M b4 (mI M x0 5 : Int32).toNatClampNeg) M Q)
set_option maxRecDepth 20000 in
set_option maxHeartbeats 2000000 in
theorem VX11_relation_0 {h : Nat} {x0 : Nat} {M : Mem} {Q : Option Value → Mem → Prop} (H : DX11_relation_0 h x0 M Q) : T (h + 1) mdX11_relation 0 [(0, .ref x0)] [] M Q := by
  unfold DX11_relation_0 at H
  refine xt_aload_n (j := 0) dX11_relation_0 rfl rfl ?_
  obtain ⟨ho1, H⟩ := H
  obtain ⟨b2, hb, H⟩ := H
  refine xt_getR dX11_relation_1 (flX11_13 rfl) ft_13_2 ho1.1 ho1.2 hb ?_
  refine xt_aload_n (j := 0) dX11_relation_4 rfl rfl ?_
  refine xt_getI dX11_relation_5 (flX11_366 rfl) ft_13_5 ho1.1 ho1.2 ?_
  obtain ⟨ho3, H⟩ := H
  obtain ⟨hi, H⟩ := H
  refine xt_iald dX11_relation_8 ho3.1 ho3.2 hi ?_
  refine xt_iconst (v := 3) dX11_relation_9 (by decide) ?_
  refine xt_icmp_ne (tgt := 25) dX11_relation_10 (by decide) (fun hc => ?_) (fun hc => ?_)
  · have H := H.1 hc
    refine xt_lconst (v := 0) dX11_relation_25 (by decide) ?_
    exact xt_sub [] rfl (VX11_relation_26 H)
  · have H := H.2 hc
    refine xt_aload_n (j := 0) dX11_relation_13 rfl rfl ?_
    obtain ⟨b4, hb, H⟩ := H
    refine xt_getR dX11_relation_14 (flX11_19 rfl) ft_13_4 ho1.1 ho1.2 hb ?_
    refine xt_aload_n (j := 0) dX11_relation_17 rfl rfl ?_
    refine xt_getI dX11_relation_18 (flX11_366 rfl) ft_13_5 ho1.1 ho1.2 ?_
    obtain ⟨ho5, H⟩ := H
    obtain ⟨hi, H⟩ := H
    refine xt_lald dX11_relation_21 ho5.1 ho5.2 hi ?_
    refine xt_goto (tgt := 26) dX11_relation_22 (by decide) ?_
    exact xt_sub [] rfl (VX11_relation_26 H)
theorem KX11_relation {h : Nat} {x0 : Nat} {M : Mem} {Q : Option Value → Mem → Prop} (H : DX11_relation_0 h x0 M Q) : E (h + 1) mdX11_relation [.ref x0] M Q := E.of (by decide) (Nat.le_of_ble_eq_true rfl) (fun _ _ _ => trivial) (VX11_relation_0 H)
def DX11_ifOf_68 (h : Nat) (M : Mem) (Q : Option Value → Mem → Prop) : Prop :=
  Q none M
set_option maxRecDepth 20000 in
set_option maxHeartbeats 2000000 in
theorem VX11_ifOf_68 {h : Nat} {M : Mem} {Q : Option Value → Mem → Prop} (H : DX11_ifOf_68 h  M Q) : T (h + 1) mdX11_ifOf 68 [] [] M Q := by
  unfold DX11_ifOf_68 at H
  exact xt_return dX11_ifOf_68 rfl H
def DX11_ifOf_0 (h : Nat) (x0 : Nat) (x1 : Int32) (M : Mem) (Q : Option Value → Mem → Prop) : Prop :=
  ok M x0 13 ∧ E h mdX11_sumOf [.ref x0, .int x1, .int 0] M (fun r M2 => mE M M2 → r = none ∧ (¬ (mI M2 x0 6) = 0 → DX11_ifOf_68 h  M2 Q) ∧
  ((mI M2 x0 6) = 0 → ∃ b3 : Nat, mR M2 x0 48 = some b3 ∧ E h mdX11_relation [.ref x0] M2 (fun r M4 => mE M2 M4 → ∃ r5 : Int32, r = some (.int r5) ∧ ok M4 b3 21 ∧ vp_in x1 (mL M4 b3) ∧ ∀ M7 : Mem, M7 = wAI M4 b3 (x1 : Int32).toNatClampNeg r5 →
  ∃ b8 : Nat, mR M7 x0 48 = some b8 ∧ ok M7 b8 21 ∧ vp_in x1 (mL M7 b8) ∧ (¬ (mAI M7 b8 (x1 : Int32).toNatClampNeg) = (-1) → E h mdX11_take [.ref x0] M7 (fun r M10 => mE M7 M10 → r = none ∧ E h mdX11_sumOf [.ref x0, .int x1, .int 1] M10 (fun r M11 => mE M10 M11 → r = none ∧ E h mdX11_want [.ref x0, .int 1, .long 399641] M11 (fun r M12 => mE M11 M12 → r = none ∧ DX11_ifOf_68 h  M12 Q)))) ∧
  ((mAI M7 b8 (x1 : Int32).toNatClampNeg) = (-1) → ∃ b13 : Nat, mR M7 x0 3 = some b13 ∧ ok M7 b13 21 ∧ vp_in (mI M7 x0 5) (mL M7 b13) ∧ E h mdX11_fails [.ref x0, .int 2, .int (mAI M7 b13 (mI M7 x0 5 : Int32).toNatClampNeg)] M7 (fun r M15 => mE M7 M15 → r = none ∧ DX11_ifOf_68 h  M15 Q)))))
set_option maxRecDepth 20000 in
set_option maxHeartbeats 2000000 in
theorem VX11_ifOf_0 {h : Nat} {x0 : Nat} {x1 : Int32} {M : Mem} {Q : Option Value → Mem → Prop} (H : DX11_ifOf_0 h x0 x1 M Q) : T (h + 1) mdX11_ifOf 0 [(0, .ref x0), (1, .int x1)] [] M Q := by
  unfold DX11_ifOf_0 at H
  refine xt_aload_n (j := 0) dX11_ifOf_0 rfl rfl ?_
  refine xt_iload_n (j := 1) dX11_ifOf_1 rfl rfl ?_
  refine xt_iconst (v := 0) dX11_ifOf_2 (by decide) ?_
  obtain ⟨ho1, H⟩ := H
  refine xt_callV (h2 := h) (as := [.int x1, .int 0]) (st := []) dX11_ifOf_3 (mlX11_588 rfl) rfl ho1.1 ⟨by rw [ho1.2]; rfl, by rw [ho1.2]; decide⟩ (by first | decide | (simp [Value.category]; done)) (Nat.le_refl _) H (fun r M2 HH hE => ?_)
  obtain ⟨hr, H⟩ := HH hE
  subst hr
  have ho1 := ok_E ho1 hE
  show T _ _ _ _ [] _ _
  refine xt_aload_n (j := 0) dX11_ifOf_6 rfl rfl ?_
  refine xt_getI dX11_ifOf_7 (flX11_360 rfl) ft_13_6 ho1.1 ho1.2 ?_
  refine xt_if_ne (tgt := 68) dX11_ifOf_10 (by decide) (fun hc => ?_) (fun hc => ?_)
  · have H := H.1 hc
    exact xt_sub [] rfl (VX11_ifOf_68 H)
  · have H := H.2 hc
    refine xt_aload_n (j := 0) dX11_ifOf_13 rfl rfl ?_
    obtain ⟨b3, hb, H⟩ := H
    refine xt_getR dX11_ifOf_14 (flX11_126 rfl) ft_13_48 ho1.1 ho1.2 hb ?_
    refine xt_iload_n (j := 1) dX11_ifOf_17 rfl rfl ?_
    refine xt_aload_n (j := 0) dX11_ifOf_18 rfl rfl ?_
    refine xt_callV (h2 := h) (as := []) (st := [.int x1, .ref b3]) dX11_ifOf_19 (mlX11_611 rfl) rfl ho1.1 ⟨by rw [ho1.2]; rfl, by rw [ho1.2]; decide⟩ (by first | decide | (simp [Value.category]; done)) (Nat.le_refl _) H (fun r M4 HH hE => ?_)
    obtain ⟨r5, hr, H⟩ := HH hE
    subst hr
    have ho1 := ok_E ho1 hE
    show T _ _ _ _ [.int r5, .int x1, .ref b3] _ _
    obtain ⟨ho6, H⟩ := H
    obtain ⟨hi, H⟩ := H
    obtain ⟨M7, eM7⟩ : ∃ z, z = wAI M4 b3 (x1 : Int32).toNatClampNeg r5 := ⟨_, rfl⟩
    have H := H _ eM7
    refine xt_iast dX11_ifOf_22 ho6.1 ho6.2 hi ?_
    have ho1 : ok M7 x0 13 := by rw [eM7]; exact ho1
    rw [← eM7]
    refine xt_aload_n (j := 0) dX11_ifOf_23 rfl rfl ?_
    obtain ⟨b8, hb, H⟩ := H
    refine xt_getR dX11_ifOf_24 (flX11_126 rfl) ft_13_48 ho1.1 ho1.2 hb ?_
    refine xt_iload_n (j := 1) dX11_ifOf_27 rfl rfl ?_
    obtain ⟨ho9, H⟩ := H
    obtain ⟨hi, H⟩ := H
    refine xt_iald dX11_ifOf_28 ho9.1 ho9.2 hi ?_
    refine xt_iconst (v := -1) dX11_ifOf_29 (by decide) ?_
    refine xt_icmp_ne (tgt := 50) dX11_ifOf_30 (by decide) (fun hc => ?_) (fun hc => ?_)
    · have H := H.1 hc
      refine xt_aload_n (j := 0) dX11_ifOf_50 rfl rfl ?_
      refine xt_callV (h2 := h) (as := []) (st := []) dX11_ifOf_51 (mlX11_377 rfl) rfl ho1.1 ⟨by rw [ho1.2]; rfl, by rw [ho1.2]; decide⟩ (by first | decide | (simp [Value.category]; done)) (Nat.le_refl _) H (fun r M10 HH hE => ?_)
      obtain ⟨hr, H⟩ := HH hE
      subst hr
      have ho1 := ok_E ho1 hE
      show T _ _ _ _ [] _ _
      refine xt_aload_n (j := 0) dX11_ifOf_54 rfl rfl ?_
      refine xt_iload_n (j := 1) dX11_ifOf_55 rfl rfl ?_
      refine xt_iconst (v := 1) dX11_ifOf_56 (by decide) ?_
      refine xt_callV (h2 := h) (as := [.int x1, .int 1]) (st := []) dX11_ifOf_57 (mlX11_588 rfl) rfl ho1.1 ⟨by rw [ho1.2]; rfl, by rw [ho1.2]; decide⟩ (by first | decide | (simp [Value.category]; done)) (Nat.le_refl _) H (fun r M11 HH hE => ?_)
      obtain ⟨hr, H⟩ := HH hE
      subst hr
      have ho1 := ok_E ho1 hE
      show T _ _ _ _ [] _ _
      refine xt_aload_n (j := 0) dX11_ifOf_60 rfl rfl ?_
      refine xt_iconst (v := 1) dX11_ifOf_61 (by decide) ?_
      refine xt_ldc2 (v := 399641) dX11_ifOf_62 (ctX11_426 rfl) ?_
      refine xt_callV (h2 := h) (as := [.int 1, .long 399641]) (st := []) dX11_ifOf_65 (mlX11_464 rfl) rfl ho1.1 ⟨by rw [ho1.2]; rfl, by rw [ho1.2]; decide⟩ (by first | decide | (simp [Value.category]; done)) (Nat.le_refl _) H (fun r M12 HH hE => ?_)
      obtain ⟨hr, H⟩ := HH hE
      subst hr
      have ho1 := ok_E ho1 hE
      show T _ _ _ _ [] _ _
      exact xt_sub [] rfl (VX11_ifOf_68 H)
    · have H := H.2 hc
      refine xt_aload_n (j := 0) dX11_ifOf_33 rfl rfl ?_
      refine xt_iconst (v := 2) dX11_ifOf_34 (by decide) ?_
      refine xt_aload_n (j := 0) dX11_ifOf_35 rfl rfl ?_
      obtain ⟨b13, hb, H⟩ := H
      refine xt_getR dX11_ifOf_36 (flX11_16 rfl) ft_13_3 ho1.1 ho1.2 hb ?_
      refine xt_aload_n (j := 0) dX11_ifOf_39 rfl rfl ?_
      refine xt_getI dX11_ifOf_40 (flX11_366 rfl) ft_13_5 ho1.1 ho1.2 ?_
      obtain ⟨ho14, H⟩ := H
      obtain ⟨hi, H⟩ := H
      refine xt_iald dX11_ifOf_43 ho14.1 ho14.2 hi ?_
      refine xt_callV (h2 := h) (as := [.int 2, .int (mAI M7 b13 (mI M7 x0 5 : Int32).toNatClampNeg)]) (st := []) dX11_ifOf_44 (mlX11_369 rfl) rfl ho1.1 ⟨by rw [ho1.2]; rfl, by rw [ho1.2]; decide⟩ (by first | decide | (simp [Value.category]; done)) (Nat.le_refl _) H (fun r M15 HH hE => ?_)
      obtain ⟨hr, H⟩ := HH hE
      subst hr
      have ho1 := ok_E ho1 hE
      show T _ _ _ _ [] _ _
      refine xt_goto (tgt := 68) dX11_ifOf_47 (by decide) ?_
      exact xt_sub [] rfl (VX11_ifOf_68 H)
theorem KX11_ifOf {h : Nat} {x0 : Nat} {x1 : Int32} {M : Mem} {Q : Option Value → Mem → Prop} (H : DX11_ifOf_0 h x0 x1 M Q) : E (h + 1) mdX11_ifOf [.ref x0, .int x1] M Q := E.of (by decide) (Nat.le_of_ble_eq_true rfl) (fun _ _ _ => trivial) (VX11_ifOf_0 H)
def DX11_headOf_172 (h : Nat) (M : Mem) (Q : Option Value → Mem → Prop) : Prop :=
  Q none M
set_option maxRecDepth 20000 in
set_option maxHeartbeats 2000000 in
theorem VX11_headOf_172 {h : Nat} {M : Mem} {Q : Option Value → Mem → Prop} (H : DX11_headOf_172 h  M Q) : T (h + 1) mdX11_headOf 172 [] [] M Q := by
  unfold DX11_headOf_172 at H
  exact xt_return dX11_headOf_172 rfl H
def DX11_headOf_0 (h : Nat) (x0 : Nat) (x1 : Int32) (M : Mem) (Q : Option Value → Mem → Prop) : Prop :=
  ok M x0 13 ∧ ∃ b2 : Nat, mR M x0 38 = some b2 ∧ ok M b2 21 ∧ vp_in x1 (mL M b2) ∧ ((mAI M b2 (x1 : Int32).toNatClampNeg) = 3 → E h mdX11_emitOf [.ref x0, .int x1] M (fun r M4 => mE M M4 → r = none ∧ DX11_headOf_172 h  M4 Q)) ∧
  ((mAI M b2 (x1 : Int32).toNatClampNeg) = 4 → E h mdX11_emitOf [.ref x0, .int x1] M (fun r M5 => mE M M5 → r = none ∧ DX11_headOf_172 h  M5 Q)) ∧
  ((mAI M b2 (x1 : Int32).toNatClampNeg) = 5 → DX11_headOf_172 h  M Q) ∧
  ((mAI M b2 (x1 : Int32).toNatClampNeg) = 6 → E h mdX11_condOf [.ref x0, .int x1] M (fun r M6 => mE M M6 → r = none ∧ E h mdX11_want [.ref x0, .int 1, .long 399641] M6 (fun r M7 => mE M6 M7 → r = none ∧ DX11_headOf_172 h  M7 Q))) ∧
  ((mAI M b2 (x1 : Int32).toNatClampNeg) = 7 → E h mdX11_atOnceOf [.ref x0, .int x1] M (fun r M8 => mE M M8 → r = none ∧ DX11_headOf_172 h  M8 Q)) ∧
  ((mAI M b2 (x1 : Int32).toNatClampNeg) = 8 → DX11_headOf_172 h  M Q) ∧
  ((mAI M b2 (x1 : Int32).toNatClampNeg) = 9 → E h mdX11_want [.ref x0, .int 1, .long 582248] M (fun r M9 => mE M M9 → r = none ∧ DX11_headOf_172 h  M9 Q)) ∧
  ((mAI M b2 (x1 : Int32).toNatClampNeg) = 10 → DX11_headOf_172 h  M Q) ∧
  ((mAI M b2 (x1 : Int32).toNatClampNeg) = 11 → E h mdX11_atOnceOf [.ref x0, .int x1] M (fun r M10 => mE M M10 → r = none ∧ E h mdX11_want [.ref x0, .int 1, .long 123] M10 (fun r M11 => mE M10 M11 → r = none ∧ DX11_headOf_172 h  M11 Q))) ∧
  ((mAI M b2 (x1 : Int32).toNatClampNeg) = 12 → E h mdX11_trapOf [.ref x0, .int x1] M (fun r M12 => mE M M12 → r = none ∧ DX11_headOf_172 h  M12 Q)) ∧
  ((mAI M b2 (x1 : Int32).toNatClampNeg) = 13 → E h mdX11_exitOf [.ref x0, .int x1] M (fun r M13 => mE M M13 → r = none ∧ DX11_headOf_172 h  M13 Q)) ∧
  ((mAI M b2 (x1 : Int32).toNatClampNeg) = 14 → E h mdX11_ifOf [.ref x0, .int x1] M (fun r M14 => mE M M14 → r = none ∧ DX11_headOf_172 h  M14 Q)) ∧
  ((mAI M b2 (x1 : Int32).toNatClampNeg) = 15 → E h mdX11_want [.ref x0, .int 3, .long 14909] M (fun r M15 => mE M M15 → r = none ∧ E h mdX11_sumOf [.ref x0, .int x1, .int 0] M15 (fun r M16 => mE M15 M16 → r = none ∧ DX11_headOf_172 h  M16 Q))) ∧
  (((mAI M b2 (x1 : Int32).toNatClampNeg : Int32).toInt < 3 ∨ 15 < (mAI M b2 (x1 : Int32).toNatClampNeg : Int32).toInt) → DX11_headOf_172 h  M Q)
set_option maxRecDepth 20000 in
set_option maxHeartbeats 2000000 in
theorem VX11_headOf_0 {h : Nat} {x0 : Nat} {x1 : Int32} {M : Mem} {Q : Option Value → Mem → Prop} (H : DX11_headOf_0 h x0 x1 M Q) : T (h + 1) mdX11_headOf 0 [(0, .ref x0), (1, .int x1)] [] M Q := by
  unfold DX11_headOf_0 at H
  refine xt_aload_n (j := 0) dX11_headOf_0 rfl rfl ?_
  obtain ⟨ho1, H⟩ := H
  obtain ⟨b2, hb, H⟩ := H
  refine xt_getR dX11_headOf_1 (flX11_96 rfl) ft_13_38 ho1.1 ho1.2 hb ?_
  refine xt_iload_n (j := 1) dX11_headOf_4 rfl rfl ?_
  obtain ⟨ho3, H⟩ := H
  obtain ⟨hi, H⟩ := H
  refine xt_iald dX11_headOf_5 ho3.1 ho3.2 hi ?_
  by_cases hsw : (mAI M b2 (x1 : Int32).toNatClampNeg : Int32).toInt < 3 ∨ 15 < (mAI M b2 (x1 : Int32).toNatClampNeg : Int32).toInt
  · refine xt_tableOut (tgt := 172) dX11_headOf_6 hsw (by decide) ?_
    have H := H.2.2.2.2.2.2.2.2.2.2.2.2.2 hsw
    exact xt_sub [] rfl (VX11_headOf_172 H)
  · have hsw2 : (mAI M b2 (x1 : Int32).toNatClampNeg : Int32).toInt = 3 ∨ (mAI M b2 (x1 : Int32).toNatClampNeg : Int32).toInt = 4 ∨ (mAI M b2 (x1 : Int32).toNatClampNeg : Int32).toInt = 5 ∨ (mAI M b2 (x1 : Int32).toNatClampNeg : Int32).toInt = 6 ∨ (mAI M b2 (x1 : Int32).toNatClampNeg : Int32).toInt = 7 ∨ (mAI M b2 (x1 : Int32).toNatClampNeg : Int32).toInt = 8 ∨ (mAI M b2 (x1 : Int32).toNatClampNeg : Int32).toInt = 9 ∨ (mAI M b2 (x1 : Int32).toNatClampNeg : Int32).toInt = 10 ∨ (mAI M b2 (x1 : Int32).toNatClampNeg : Int32).toInt = 11 ∨ (mAI M b2 (x1 : Int32).toNatClampNeg : Int32).toInt = 12 ∨ (mAI M b2 (x1 : Int32).toNatClampNeg : Int32).toInt = 13 ∨ (mAI M b2 (x1 : Int32).toNatClampNeg : Int32).toInt = 14 ∨ (mAI M b2 (x1 : Int32).toNatClampNeg : Int32).toInt = 15 := by omega
    rcases hsw2 with hv | hv | hv | hv | hv | hv | hv | hv | hv | hv | hv | hv | hv
    · have hx : (mAI M b2 (x1 : Int32).toNatClampNeg) = 3 := i32_ofInt hv
      have H := H.1 hx
      refine xt_tableIn (tgt := 72) dX11_headOf_6 (by omega) (by omega) (by rw [hv]; rfl) (by decide) ?_
      refine xt_aload_n (j := 0) dX11_headOf_72 rfl rfl ?_
      refine xt_iload_n (j := 1) dX11_headOf_73 rfl rfl ?_
      refine xt_callV (h2 := h) (as := [.int x1]) (st := []) dX11_headOf_74 (mlX11_614 rfl) rfl ho1.1 ⟨by rw [ho1.2]; rfl, by rw [ho1.2]; decide⟩ (by first | decide | (simp [Value.category]; done)) (Nat.le_refl _) H (fun r M4 HH hE => ?_)
      obtain ⟨hr, H⟩ := HH hE
      subst hr
      have ho1 := ok_E ho1 hE
      show T _ _ _ _ [] _ _
      refine xt_goto (tgt := 172) dX11_headOf_77 (by decide) ?_
      exact xt_sub [] rfl (VX11_headOf_172 H)
    · have hx : (mAI M b2 (x1 : Int32).toNatClampNeg) = 4 := i32_ofInt hv
      have H := H.2.1 hx
      refine xt_tableIn (tgt := 72) dX11_headOf_6 (by omega) (by omega) (by rw [hv]; rfl) (by decide) ?_
      refine xt_aload_n (j := 0) dX11_headOf_72 rfl rfl ?_
      refine xt_iload_n (j := 1) dX11_headOf_73 rfl rfl ?_
      refine xt_callV (h2 := h) (as := [.int x1]) (st := []) dX11_headOf_74 (mlX11_614 rfl) rfl ho1.1 ⟨by rw [ho1.2]; rfl, by rw [ho1.2]; decide⟩ (by first | decide | (simp [Value.category]; done)) (Nat.le_refl _) H (fun r M5 HH hE => ?_)
      obtain ⟨hr, H⟩ := HH hE
      subst hr
      have ho1 := ok_E ho1 hE
      show T _ _ _ _ [] _ _
      refine xt_goto (tgt := 172) dX11_headOf_77 (by decide) ?_
      exact xt_sub [] rfl (VX11_headOf_172 H)
    · have hx : (mAI M b2 (x1 : Int32).toNatClampNeg) = 5 := i32_ofInt hv
      have H := H.2.2.1 hx
      refine xt_tableIn (tgt := 172) dX11_headOf_6 (by omega) (by omega) (by rw [hv]; rfl) (by decide) ?_
      exact xt_sub [] rfl (VX11_headOf_172 H)
    · have hx : (mAI M b2 (x1 : Int32).toNatClampNeg) = 6 := i32_ofInt hv
      have H := H.2.2.2.1 hx
      refine xt_tableIn (tgt := 80) dX11_headOf_6 (by omega) (by omega) (by rw [hv]; rfl) (by decide) ?_
      refine xt_aload_n (j := 0) dX11_headOf_80 rfl rfl ?_
      refine xt_iload_n (j := 1) dX11_headOf_81 rfl rfl ?_
      refine xt_callV (h2 := h) (as := [.int x1]) (st := []) dX11_headOf_82 (mlX11_582 rfl) rfl ho1.1 ⟨by rw [ho1.2]; rfl, by rw [ho1.2]; decide⟩ (by first | decide | (simp [Value.category]; done)) (Nat.le_refl _) H (fun r M6 HH hE => ?_)
      obtain ⟨hr, H⟩ := HH hE
      subst hr
      have ho1 := ok_E ho1 hE
      show T _ _ _ _ [] _ _
      refine xt_aload_n (j := 0) dX11_headOf_85 rfl rfl ?_
      refine xt_iconst (v := 1) dX11_headOf_86 (by decide) ?_
      refine xt_ldc2 (v := 399641) dX11_headOf_87 (ctX11_426 rfl) ?_
      refine xt_callV (h2 := h) (as := [.int 1, .long 399641]) (st := []) dX11_headOf_90 (mlX11_464 rfl) rfl ho1.1 ⟨by rw [ho1.2]; rfl, by rw [ho1.2]; decide⟩ (by first | decide | (simp [Value.category]; done)) (Nat.le_refl _) H (fun r M7 HH hE => ?_)
      obtain ⟨hr, H⟩ := HH hE
      subst hr
      have ho1 := ok_E ho1 hE
      show T _ _ _ _ [] _ _
      refine xt_goto (tgt := 172) dX11_headOf_93 (by decide) ?_
      exact xt_sub [] rfl (VX11_headOf_172 H)
    · have hx : (mAI M b2 (x1 : Int32).toNatClampNeg) = 7 := i32_ofInt hv
      have H := H.2.2.2.2.1 hx
      refine xt_tableIn (tgt := 96) dX11_headOf_6 (by omega) (by omega) (by rw [hv]; rfl) (by decide) ?_
      refine xt_aload_n (j := 0) dX11_headOf_96 rfl rfl ?_
      refine xt_iload_n (j := 1) dX11_headOf_97 rfl rfl ?_
      refine xt_callV (h2 := h) (as := [.int x1]) (st := []) dX11_headOf_98 (mlX11_617 rfl) rfl ho1.1 ⟨by rw [ho1.2]; rfl, by rw [ho1.2]; decide⟩ (by first | decide | (simp [Value.category]; done)) (Nat.le_refl _) H (fun r M8 HH hE => ?_)
      obtain ⟨hr, H⟩ := HH hE
      subst hr
      have ho1 := ok_E ho1 hE
      show T _ _ _ _ [] _ _
      refine xt_goto (tgt := 172) dX11_headOf_101 (by decide) ?_
      exact xt_sub [] rfl (VX11_headOf_172 H)
    · have hx : (mAI M b2 (x1 : Int32).toNatClampNeg) = 8 := i32_ofInt hv
      have H := H.2.2.2.2.2.1 hx
      refine xt_tableIn (tgt := 172) dX11_headOf_6 (by omega) (by omega) (by rw [hv]; rfl) (by decide) ?_
      exact xt_sub [] rfl (VX11_headOf_172 H)
    · have hx : (mAI M b2 (x1 : Int32).toNatClampNeg) = 9 := i32_ofInt hv
      have H := H.2.2.2.2.2.2.1 hx
      refine xt_tableIn (tgt := 104) dX11_headOf_6 (by omega) (by omega) (by rw [hv]; rfl) (by decide) ?_
      refine xt_aload_n (j := 0) dX11_headOf_104 rfl rfl ?_
      refine xt_iconst (v := 1) dX11_headOf_105 (by decide) ?_
      refine xt_ldc2 (v := 582248) dX11_headOf_106 (ctX11_416 rfl) ?_
      refine xt_callV (h2 := h) (as := [.int 1, .long 582248]) (st := []) dX11_headOf_109 (mlX11_464 rfl) rfl ho1.1 ⟨by rw [ho1.2]; rfl, by rw [ho1.2]; decide⟩ (by first | decide | (simp [Value.category]; done)) (Nat.le_refl _) H (fun r M9 HH hE => ?_)
      obtain ⟨hr, H⟩ := HH hE
      subst hr
      have ho1 := ok_E ho1 hE
      show T _ _ _ _ [] _ _
      refine xt_goto (tgt := 172) dX11_headOf_112 (by decide) ?_
      exact xt_sub [] rfl (VX11_headOf_172 H)
    · have hx : (mAI M b2 (x1 : Int32).toNatClampNeg) = 10 := i32_ofInt hv
      have H := H.2.2.2.2.2.2.2.1 hx
      refine xt_tableIn (tgt := 172) dX11_headOf_6 (by omega) (by omega) (by rw [hv]; rfl) (by decide) ?_
      exact xt_sub [] rfl (VX11_headOf_172 H)
    · have hx : (mAI M b2 (x1 : Int32).toNatClampNeg) = 11 := i32_ofInt hv
      have H := H.2.2.2.2.2.2.2.2.1 hx
      refine xt_tableIn (tgt := 115) dX11_headOf_6 (by omega) (by omega) (by rw [hv]; rfl) (by decide) ?_
      refine xt_aload_n (j := 0) dX11_headOf_115 rfl rfl ?_
      refine xt_iload_n (j := 1) dX11_headOf_116 rfl rfl ?_
      refine xt_callV (h2 := h) (as := [.int x1]) (st := []) dX11_headOf_117 (mlX11_617 rfl) rfl ho1.1 ⟨by rw [ho1.2]; rfl, by rw [ho1.2]; decide⟩ (by first | decide | (simp [Value.category]; done)) (Nat.le_refl _) H (fun r M10 HH hE => ?_)
      obtain ⟨hr, H⟩ := HH hE
      subst hr
      have ho1 := ok_E ho1 hE
      show T _ _ _ _ [] _ _
      refine xt_aload_n (j := 0) dX11_headOf_120 rfl rfl ?_
      refine xt_iconst (v := 1) dX11_headOf_121 (by decide) ?_
      refine xt_ldc2 (v := 123) dX11_headOf_122 (ctX11_434 rfl) ?_
      refine xt_callV (h2 := h) (as := [.int 1, .long 123]) (st := []) dX11_headOf_125 (mlX11_464 rfl) rfl ho1.1 ⟨by rw [ho1.2]; rfl, by rw [ho1.2]; decide⟩ (by first | decide | (simp [Value.category]; done)) (Nat.le_refl _) H (fun r M11 HH hE => ?_)
      obtain ⟨hr, H⟩ := HH hE
      subst hr
      have ho1 := ok_E ho1 hE
      show T _ _ _ _ [] _ _
      refine xt_goto (tgt := 172) dX11_headOf_128 (by decide) ?_
      exact xt_sub [] rfl (VX11_headOf_172 H)
    · have hx : (mAI M b2 (x1 : Int32).toNatClampNeg) = 12 := i32_ofInt hv
      have H := H.2.2.2.2.2.2.2.2.2.1 hx
      refine xt_tableIn (tgt := 131) dX11_headOf_6 (by omega) (by omega) (by rw [hv]; rfl) (by decide) ?_
      refine xt_aload_n (j := 0) dX11_headOf_131 rfl rfl ?_
      refine xt_iload_n (j := 1) dX11_headOf_132 rfl rfl ?_
      refine xt_callV (h2 := h) (as := [.int x1]) (st := []) dX11_headOf_133 (mlX11_620 rfl) rfl ho1.1 ⟨by rw [ho1.2]; rfl, by rw [ho1.2]; decide⟩ (by first | decide | (simp [Value.category]; done)) (Nat.le_refl _) H (fun r M12 HH hE => ?_)
      obtain ⟨hr, H⟩ := HH hE
      subst hr
      have ho1 := ok_E ho1 hE
      show T _ _ _ _ [] _ _
      refine xt_goto (tgt := 172) dX11_headOf_136 (by decide) ?_
      exact xt_sub [] rfl (VX11_headOf_172 H)
    · have hx : (mAI M b2 (x1 : Int32).toNatClampNeg) = 13 := i32_ofInt hv
      have H := H.2.2.2.2.2.2.2.2.2.2.1 hx
      refine xt_tableIn (tgt := 139) dX11_headOf_6 (by omega) (by omega) (by rw [hv]; rfl) (by decide) ?_
      refine xt_aload_n (j := 0) dX11_headOf_139 rfl rfl ?_
      refine xt_iload_n (j := 1) dX11_headOf_140 rfl rfl ?_
      refine xt_callV (h2 := h) (as := [.int x1]) (st := []) dX11_headOf_141 (mlX11_623 rfl) rfl ho1.1 ⟨by rw [ho1.2]; rfl, by rw [ho1.2]; decide⟩ (by first | decide | (simp [Value.category]; done)) (Nat.le_refl _) H (fun r M13 HH hE => ?_)
      obtain ⟨hr, H⟩ := HH hE
      subst hr
      have ho1 := ok_E ho1 hE
      show T _ _ _ _ [] _ _
      refine xt_goto (tgt := 172) dX11_headOf_144 (by decide) ?_
      exact xt_sub [] rfl (VX11_headOf_172 H)
    · have hx : (mAI M b2 (x1 : Int32).toNatClampNeg) = 14 := i32_ofInt hv
      have H := H.2.2.2.2.2.2.2.2.2.2.2.1 hx
      refine xt_tableIn (tgt := 147) dX11_headOf_6 (by omega) (by omega) (by rw [hv]; rfl) (by decide) ?_
      refine xt_aload_n (j := 0) dX11_headOf_147 rfl rfl ?_
      refine xt_iload_n (j := 1) dX11_headOf_148 rfl rfl ?_
      refine xt_callV (h2 := h) (as := [.int x1]) (st := []) dX11_headOf_149 (mlX11_626 rfl) rfl ho1.1 ⟨by rw [ho1.2]; rfl, by rw [ho1.2]; decide⟩ (by first | decide | (simp [Value.category]; done)) (Nat.le_refl _) H (fun r M14 HH hE => ?_)
      obtain ⟨hr, H⟩ := HH hE
      subst hr
      have ho1 := ok_E ho1 hE
      show T _ _ _ _ [] _ _
      refine xt_goto (tgt := 172) dX11_headOf_152 (by decide) ?_
      exact xt_sub [] rfl (VX11_headOf_172 H)
    · have hx : (mAI M b2 (x1 : Int32).toNatClampNeg) = 15 := i32_ofInt hv
      have H := H.2.2.2.2.2.2.2.2.2.2.2.2.1 hx
      refine xt_tableIn (tgt := 155) dX11_headOf_6 (by omega) (by omega) (by rw [hv]; rfl) (by decide) ?_
      refine xt_aload_n (j := 0) dX11_headOf_155 rfl rfl ?_
      refine xt_iconst (v := 3) dX11_headOf_156 (by decide) ?_
      refine xt_ldc2 (v := 14909) dX11_headOf_157 (ctX11_480 rfl) ?_
      refine xt_callV (h2 := h) (as := [.int 3, .long 14909]) (st := []) dX11_headOf_160 (mlX11_464 rfl) rfl ho1.1 ⟨by rw [ho1.2]; rfl, by rw [ho1.2]; decide⟩ (by first | decide | (simp [Value.category]; done)) (Nat.le_refl _) H (fun r M15 HH hE => ?_)
      obtain ⟨hr, H⟩ := HH hE
      subst hr
      have ho1 := ok_E ho1 hE
      show T _ _ _ _ [] _ _
      refine xt_aload_n (j := 0) dX11_headOf_163 rfl rfl ?_
      refine xt_iload_n (j := 1) dX11_headOf_164 rfl rfl ?_
      refine xt_iconst (v := 0) dX11_headOf_165 (by decide) ?_
      refine xt_callV (h2 := h) (as := [.int x1, .int 0]) (st := []) dX11_headOf_166 (mlX11_588 rfl) rfl ho1.1 ⟨by rw [ho1.2]; rfl, by rw [ho1.2]; decide⟩ (by first | decide | (simp [Value.category]; done)) (Nat.le_refl _) H (fun r M16 HH hE => ?_)
      obtain ⟨hr, H⟩ := HH hE
      subst hr
      have ho1 := ok_E ho1 hE
      show T _ _ _ _ [] _ _
      refine xt_goto (tgt := 172) dX11_headOf_169 (by decide) ?_
      exact xt_sub [] rfl (VX11_headOf_172 H)
theorem KX11_headOf {h : Nat} {x0 : Nat} {x1 : Int32} {M : Mem} {Q : Option Value → Mem → Prop} (H : DX11_headOf_0 h x0 x1 M Q) : E (h + 1) mdX11_headOf [.ref x0, .int x1] M Q := E.of (by decide) (Nat.le_of_ble_eq_true rfl) (fun _ _ _ => trivial) (VX11_headOf_0 H)
def DX11_openRow_42 (h : Nat) (x0 : Nat) (x2 : Int32) (M : Mem) (Q : Option Value → Mem → Prop) : Prop :=
  ok M x0 13 ∧ ∃ b2 : Nat, mR M x0 58 = some b2 ∧ ok M b2 21 ∧ vp_in ((mI M x0 60) - 1) (mL M b2) ∧ ∀ M4 : Mem, M4 = wAI M b2 ((mI M x0 60) - 1 : Int32).toNatClampNeg x2 →
  ∃ b5 : Nat, mR M4 x0 59 = some b5 ∧ ok M4 b5 21 ∧ vp_in ((mI M4 x0 60) - 1) (mL M4 b5) ∧ vp_in ((mI M4 x0 60) - 1) (mL M4 b5) ∧ ∀ M7 : Mem, M7 = wAI M4 b5 ((mI M4 x0 60) - 1 : Int32).toNatClampNeg ((mAI M4 b5 ((mI M4 x0 60) - 1 : Int32).toNatClampNeg) + 1) →
  Q none M7
set_option maxRecDepth 20000 in
set_option maxHeartbeats 2000000 in
theorem VX11_openRow_42 {h : Nat} {x0 : Nat} {x2 : Int32} {M : Mem} {Q : Option Value → Mem → Prop} (H : DX11_openRow_42 h x0 x2 M Q) : T (h + 1) mdX11_openRow 42 [(0, .ref x0), (2, .int x2)] [] M Q := by
  unfold DX11_openRow_42 at H
  refine xt_aload_n (j := 0) dX11_openRow_42 rfl rfl ?_
  obtain ⟨ho1, H⟩ := H
  obtain ⟨b2, hb, H⟩ := H
  refine xt_getR dX11_openRow_43 (flX11_153 rfl) ft_13_58 ho1.1 ho1.2 hb ?_
  refine xt_aload_n (j := 0) dX11_openRow_46 rfl rfl ?_
  refine xt_getI dX11_openRow_47 (flX11_576 rfl) ft_13_60 ho1.1 ho1.2 ?_
  refine xt_iconst (v := 1) dX11_openRow_50 (by decide) ?_
  refine xt_isub dX11_openRow_51 ?_
  refine xt_iload_n (j := 1) dX11_openRow_52 rfl rfl ?_
  obtain ⟨ho3, H⟩ := H
  obtain ⟨hi, H⟩ := H
  obtain ⟨M4, eM4⟩ : ∃ z, z = wAI M b2 ((mI M x0 60) - 1 : Int32).toNatClampNeg x2 := ⟨_, rfl⟩
  have H := H _ eM4
  refine xt_iast dX11_openRow_53 ho3.1 ho3.2 hi ?_
  have ho1 : ok M4 x0 13 := by rw [eM4]; exact ho1
  rw [← eM4]
  refine xt_aload_n (j := 0) dX11_openRow_54 rfl rfl ?_
  obtain ⟨b5, hb, H⟩ := H
  refine xt_getR dX11_openRow_55 (flX11_156 rfl) ft_13_59 ho1.1 ho1.2 hb ?_
  refine xt_aload_n (j := 0) dX11_openRow_58 rfl rfl ?_
  refine xt_getI dX11_openRow_59 (flX11_576 rfl) ft_13_60 ho1.1 ho1.2 ?_
  refine xt_iconst (v := 1) dX11_openRow_62 (by decide) ?_
  refine xt_isub dX11_openRow_63 ?_
  refine xt_dup2 dX11_openRow_64 rfl rfl ?_
  obtain ⟨ho6, H⟩ := H
  obtain ⟨hi, H⟩ := H
  refine xt_iald dX11_openRow_65 ho6.1 ho6.2 hi ?_
  refine xt_iconst (v := 1) dX11_openRow_66 (by decide) ?_
  refine xt_iadd dX11_openRow_67 ?_
  obtain ⟨hi, H⟩ := H
  obtain ⟨M7, eM7⟩ : ∃ z, z = wAI M4 b5 ((mI M4 x0 60) - 1 : Int32).toNatClampNeg ((mAI M4 b5 ((mI M4 x0 60) - 1 : Int32).toNatClampNeg) + 1) := ⟨_, rfl⟩
  have H := H _ eM7
  refine xt_iast dX11_openRow_68 ho6.1 ho6.2 hi ?_
  have ho1 : ok M7 x0 13 := by rw [eM7]; exact ho1
  rw [← eM7]
  exact xt_return dX11_openRow_69 rfl H
def DX11_openRow_0 (h : Nat) (x0 : Nat) (x1 : Int32) (M : Mem) (Q : Option Value → Mem → Prop) : Prop :=
  ok M x0 13 ∧ E h mdX11_newSeq [.ref x0] M (fun r M2 => mE M M2 → ∃ r3 : Int32, r = some (.int r3) ∧ ∃ b4 : Nat, mR M2 x0 49 = some b4 ∧ ok M2 b4 21 ∧ vp_in x1 (mL M2 b4) ∧ (¬ (mAI M2 b4 (x1 : Int32).toNatClampNeg) = (-1) → ∃ b6 : Nat, mR M2 x0 56 = some b6 ∧ ∃ b7 : Nat, mR M2 x0 58 = some b7 ∧ ok M2 b7 21 ∧ vp_in ((mI M2 x0 60) - 1) (mL M2 b7) ∧ ok M2 b6 21 ∧ vp_in (mAI M2 b7 ((mI M2 x0 60) - 1 : Int32).toNatClampNeg) (mL M2 b6) ∧ ∀ M10 : Mem, M10 = wAI M2 b6 (mAI M2 b7 ((mI M2 x0 60) - 1 : Int32).toNatClampNeg : Int32).toNatClampNeg r3 →
  DX11_openRow_42 h x0 r3 M10 Q) ∧
  ((mAI M2 b4 (x1 : Int32).toNatClampNeg) = (-1) → ∃ b11 : Nat, mR M2 x0 49 = some b11 ∧ ok M2 b11 21 ∧ vp_in x1 (mL M2 b11) ∧ ∀ M13 : Mem, M13 = wAI M2 b11 (x1 : Int32).toNatClampNeg r3 →
  DX11_openRow_42 h x0 r3 M13 Q))
set_option maxRecDepth 20000 in
set_option maxHeartbeats 2000000 in
theorem VX11_openRow_0 {h : Nat} {x0 : Nat} {x1 : Int32} {M : Mem} {Q : Option Value → Mem → Prop} (H : DX11_openRow_0 h x0 x1 M Q) : T (h + 1) mdX11_openRow 0 [(0, .ref x0), (1, .int x1)] [] M Q := by
  unfold DX11_openRow_0 at H
  refine xt_aload_n (j := 0) dX11_openRow_0 rfl rfl ?_
  obtain ⟨ho1, H⟩ := H
  refine xt_callV (h2 := h) (as := []) (st := []) dX11_openRow_1 (mlX11_629 rfl) rfl ho1.1 ⟨by rw [ho1.2]; rfl, by rw [ho1.2]; decide⟩ (by first | decide | (simp [Value.category]; done)) (Nat.le_refl _) H (fun r M2 HH hE => ?_)
  obtain ⟨r3, hr, H⟩ := HH hE
  subst hr
  have ho1 := ok_E ho1 hE
  show T _ _ _ _ [.int r3] _ _
  refine xt_istore_n (lv' := [(2, .int r3), (0, .ref x0), (1, .int x1)]) dX11_openRow_4 rfl (by decide) rfl ?_
  refine xt_aload_n (j := 1) dX11_openRow_5 rfl rfl ?_
  obtain ⟨b4, hb, H⟩ := H
  refine xt_getR dX11_openRow_6 (flX11_129 rfl) ft_13_49 ho1.1 ho1.2 hb ?_
  refine xt_iload_n (j := 2) dX11_openRow_9 rfl rfl ?_
  obtain ⟨ho5, H⟩ := H
  obtain ⟨hi, H⟩ := H
  refine xt_iald dX11_openRow_10 ho5.1 ho5.2 hi ?_
  refine xt_iconst (v := -1) dX11_openRow_11 (by decide) ?_
  refine xt_icmp_ne (tgt := 25) dX11_openRow_12 (by decide) (fun hc => ?_) (fun hc => ?_)
  · have H := H.1 hc
    refine xt_aload_n (j := 1) dX11_openRow_25 rfl rfl ?_
    obtain ⟨b6, hb, H⟩ := H
    refine xt_getR dX11_openRow_26 (flX11_147 rfl) ft_13_56 ho1.1 ho1.2 hb ?_
    refine xt_aload_n (j := 1) dX11_openRow_29 rfl rfl ?_
    obtain ⟨b7, hb, H⟩ := H
    refine xt_getR dX11_openRow_30 (flX11_153 rfl) ft_13_58 ho1.1 ho1.2 hb ?_
    refine xt_aload_n (j := 1) dX11_openRow_33 rfl rfl ?_
    refine xt_getI dX11_openRow_34 (flX11_576 rfl) ft_13_60 ho1.1 ho1.2 ?_
    refine xt_iconst (v := 1) dX11_openRow_37 (by decide) ?_
    refine xt_isub dX11_openRow_38 ?_
    obtain ⟨ho8, H⟩ := H
    obtain ⟨hi, H⟩ := H
    refine xt_iald dX11_openRow_39 ho8.1 ho8.2 hi ?_
    refine xt_iload_n (j := 0) dX11_openRow_40 rfl rfl ?_
    obtain ⟨ho9, H⟩ := H
    obtain ⟨hi, H⟩ := H
    obtain ⟨M10, eM10⟩ : ∃ z, z = wAI M2 b6 (mAI M2 b7 ((mI M2 x0 60) - 1 : Int32).toNatClampNeg : Int32).toNatClampNeg r3 := ⟨_, rfl⟩
    have H := H _ eM10
    refine xt_iast dX11_openRow_41 ho9.1 ho9.2 hi ?_
    have ho1 : ok M10 x0 13 := by rw [eM10]; exact ho1
    rw [← eM10]
    exact xt_sub [1, 0] rfl (VX11_openRow_42 H)
  · have H := H.2 hc
    refine xt_aload_n (j := 1) dX11_openRow_15 rfl rfl ?_
    obtain ⟨b11, hb, H⟩ := H
    refine xt_getR dX11_openRow_16 (flX11_129 rfl) ft_13_49 ho1.1 ho1.2 hb ?_
    refine xt_iload_n (j := 2) dX11_openRow_19 rfl rfl ?_
    refine xt_iload_n (j := 0) dX11_openRow_20 rfl rfl ?_
    obtain ⟨ho12, H⟩ := H
    obtain ⟨hi, H⟩ := H
    obtain ⟨M13, eM13⟩ : ∃ z, z = wAI M2 b11 (x1 : Int32).toNatClampNeg r3 := ⟨_, rfl⟩
    have H := H _ eM13
    refine xt_iast dX11_openRow_21 ho12.1 ho12.2 hi ?_
    have ho1 : ok M13 x0 13 := by rw [eM13]; exact ho1
    rw [← eM13]
    refine xt_goto (tgt := 42) dX11_openRow_22 (by decide) ?_
    exact xt_sub [1, 0] rfl (VX11_openRow_42 H)
theorem KX11_openRow {h : Nat} {x0 : Nat} {x1 : Int32} {M : Mem} {Q : Option Value → Mem → Prop} (H : DX11_openRow_0 h x0 x1 M Q) : E (h + 1) mdX11_openRow [.ref x0, .int x1] M Q := E.of (by decide) (Nat.le_of_ble_eq_true rfl) (fun _ _ _ => trivial) (VX11_openRow_0 H)
def DX11_goesOn_182 (h : Nat) (x0 : Nat) (M : Mem) (Q : Option Value → Mem → Prop) : Prop :=
  ok M x0 13 ∧ E h mdX11_want [.ref x0, .int 1, .long 4027] M (fun r M2 => mE M M2 → r = none ∧ ((0 : Int32) = 0 ∨ (0 : Int32) = 1) ∧ Q (some (.int 0)) M2)
set_option maxRecDepth 20000 in
set_option maxHeartbeats 2000000 in
theorem VX11_goesOn_182 {h : Nat} {x0 : Nat} {M : Mem} {Q : Option Value → Mem → Prop} (H : DX11_goesOn_182 h x0 M Q) : T (h + 1) mdX11_goesOn 182 [(0, .ref x0)] [] M Q := by
  unfold DX11_goesOn_182 at H
  refine xt_aload_n (j := 0) dX11_goesOn_182 rfl rfl ?_
  refine xt_iconst (v := 1) dX11_goesOn_183 (by decide) ?_
  refine xt_ldc2 (v := 4027) dX11_goesOn_184 (ctX11_424 rfl) ?_
  obtain ⟨ho1, H⟩ := H
  refine xt_callV (h2 := h) (as := [.int 1, .long 4027]) (st := []) dX11_goesOn_187 (mlX11_464 rfl) rfl ho1.1 ⟨by rw [ho1.2]; rfl, by rw [ho1.2]; decide⟩ (by first | decide | (simp [Value.category]; done)) (Nat.le_refl _) H (fun r M2 HH hE => ?_)
  obtain ⟨hr, H⟩ := HH hE
  subst hr
  have ho1 := ok_E ho1 hE
  show T _ _ _ _ [] _ _
  refine xt_iconst (v := 0) dX11_goesOn_190 (by decide) ?_
  exact xt_zreturn dX11_goesOn_191 rfl H.1 H.2
def DX11_goesOn_163 (h : Nat) (x0 : Nat) (x1 : Int32) (x2 : Int32) (M : Mem) (Q : Option Value → Mem → Prop) : Prop :=
  (¬ x2 = 10 → DX11_goesOn_182 h x0 M Q) ∧
  (x2 = 10 → ok M x0 13 ∧ E h mdX11_want [.ref x0, .int 1, .long 458690] M (fun r M2 => mE M M2 → r = none ∧ E h mdX11_condOf [.ref x0, .int x1] M2 (fun r M3 => mE M2 M3 → r = none ∧ DX11_goesOn_182 h x0 M3 Q)))
set_option maxRecDepth 20000 in
set_option maxHeartbeats 2000000 in
theorem VX11_goesOn_163 {h : Nat} {x0 : Nat} {x1 : Int32} {x2 : Int32} {M : Mem} {Q : Option Value → Mem → Prop} (H : DX11_goesOn_163 h x0 x1 x2 M Q) : T (h + 1) mdX11_goesOn 163 [(0, .ref x0), (1, .int x1), (2, .int x2)] [] M Q := by
  unfold DX11_goesOn_163 at H
  refine xt_iload_n (j := 2) dX11_goesOn_163 rfl rfl ?_
  refine xt_bipush (v := 10) dX11_goesOn_164 (by decide) ?_
  refine xt_icmp_ne (tgt := 182) dX11_goesOn_166 (by decide) (fun hc => ?_) (fun hc => ?_)
  · have H := H.1 hc
    exact xt_sub [0] rfl (VX11_goesOn_182 H)
  · have H := H.2 hc
    refine xt_aload_n (j := 0) dX11_goesOn_169 rfl rfl ?_
    refine xt_iconst (v := 1) dX11_goesOn_170 (by decide) ?_
    refine xt_ldc2 (v := 458690) dX11_goesOn_171 (ctX11_432 rfl) ?_
    obtain ⟨ho1, H⟩ := H
    refine xt_callV (h2 := h) (as := [.int 1, .long 458690]) (st := []) dX11_goesOn_174 (mlX11_464 rfl) rfl ho1.1 ⟨by rw [ho1.2]; rfl, by rw [ho1.2]; decide⟩ (by first | decide | (simp [Value.category]; done)) (Nat.le_refl _) H (fun r M2 HH hE => ?_)
    obtain ⟨hr, H⟩ := HH hE
    subst hr
    have ho1 := ok_E ho1 hE
    show T _ _ _ _ [] _ _
    refine xt_aload_n (j := 0) dX11_goesOn_177 rfl rfl ?_
    refine xt_iload_n (j := 1) dX11_goesOn_178 rfl rfl ?_
    refine xt_callV (h2 := h) (as := [.int x1]) (st := []) dX11_goesOn_179 (mlX11_582 rfl) rfl ho1.1 ⟨by rw [ho1.2]; rfl, by rw [ho1.2]; decide⟩ (by first | decide | (simp [Value.category]; done)) (Nat.le_refl _) H (fun r M3 HH hE => ?_)
    obtain ⟨hr, H⟩ := HH hE
    subst hr
    have ho1 := ok_E ho1 hE
    show T _ _ _ _ [] _ _
    exact xt_sub [0] rfl (VX11_goesOn_182 H)
def DX11_goesOn_143 (h : Nat) (x0 : Nat) (x1 : Int32) (x2 : Int32) (M : Mem) (Q : Option Value → Mem → Prop) : Prop :=
  ok M x0 13 ∧ E h mdX11_want [.ref x0, .int 1, .long 458690] M (fun r M2 => mE M M2 → r = none ∧ (¬ (mI M2 x0 6) = 0 → DX11_goesOn_163 h x0 x1 x2 M2 Q) ∧
  ((mI M2 x0 6) = 0 → E h mdX11_atOnceOf [.ref x0, .int x1] M2 (fun r M3 => mE M2 M3 → r = none ∧ DX11_goesOn_163 h x0 x1 x2 M3 Q)))
set_option maxRecDepth 20000 in
set_option maxHeartbeats 2000000 in
theorem VX11_goesOn_143 {h : Nat} {x0 : Nat} {x1 : Int32} {x2 : Int32} {M : Mem} {Q : Option Value → Mem → Prop} (H : DX11_goesOn_143 h x0 x1 x2 M Q) : T (h + 1) mdX11_goesOn 143 [(0, .ref x0), (1, .int x1), (2, .int x2)] [] M Q := by
  unfold DX11_goesOn_143 at H
  refine xt_aload_n (j := 0) dX11_goesOn_143 rfl rfl ?_
  refine xt_iconst (v := 1) dX11_goesOn_144 (by decide) ?_
  refine xt_ldc2 (v := 458690) dX11_goesOn_145 (ctX11_432 rfl) ?_
  obtain ⟨ho1, H⟩ := H
  refine xt_callV (h2 := h) (as := [.int 1, .long 458690]) (st := []) dX11_goesOn_148 (mlX11_464 rfl) rfl ho1.1 ⟨by rw [ho1.2]; rfl, by rw [ho1.2]; decide⟩ (by first | decide | (simp [Value.category]; done)) (Nat.le_refl _) H (fun r M2 HH hE => ?_)
  obtain ⟨hr, H⟩ := HH hE
  subst hr
  have ho1 := ok_E ho1 hE
  show T _ _ _ _ [] _ _
  refine xt_aload_n (j := 0) dX11_goesOn_151 rfl rfl ?_
  refine xt_getI dX11_goesOn_152 (flX11_360 rfl) ft_13_6 ho1.1 ho1.2 ?_
  refine xt_if_ne (tgt := 163) dX11_goesOn_155 (by decide) (fun hc => ?_) (fun hc => ?_)
  · have H := H.1 hc
    exact xt_sub [0, 1, 2] rfl (VX11_goesOn_163 H)
  · have H := H.2 hc
    refine xt_aload_n (j := 0) dX11_goesOn_158 rfl rfl ?_
    refine xt_iload_n (j := 1) dX11_goesOn_159 rfl rfl ?_
    refine xt_callV (h2 := h) (as := [.int x1]) (st := []) dX11_goesOn_160 (mlX11_617 rfl) rfl ho1.1 ⟨by rw [ho1.2]; rfl, by rw [ho1.2]; decide⟩ (by first | decide | (simp [Value.category]; done)) (Nat.le_refl _) H (fun r M3 HH hE => ?_)
    obtain ⟨hr, H⟩ := HH hE
    subst hr
    have ho1 := ok_E ho1 hE
    show T _ _ _ _ [] _ _
    exact xt_sub [0, 1, 2] rfl (VX11_goesOn_163 H)
def DX11_goesOn_131 (h : Nat) (x0 : Nat) (x1 : Int32) (x2 : Int32) (M : Mem) (Q : Option Value → Mem → Prop) : Prop :=
  (x2 = 8 → DX11_goesOn_143 h x0 x1 x2 M Q) ∧
  (¬ (x2 = 8) → (¬ x2 = 9 → DX11_goesOn_163 h x0 x1 x2 M Q) ∧
  (x2 = 9 → DX11_goesOn_143 h x0 x1 x2 M Q))
set_option maxRecDepth 20000 in
set_option maxHeartbeats 2000000 in
theorem VX11_goesOn_131 {h : Nat} {x0 : Nat} {x1 : Int32} {x2 : Int32} {M : Mem} {Q : Option Value → Mem → Prop} (H : DX11_goesOn_131 h x0 x1 x2 M Q) : T (h + 1) mdX11_goesOn 131 [(0, .ref x0), (1, .int x1), (2, .int x2)] [] M Q := by
  unfold DX11_goesOn_131 at H
  refine xt_iload_n (j := 2) dX11_goesOn_131 rfl rfl ?_
  refine xt_bipush (v := 8) dX11_goesOn_132 (by decide) ?_
  refine xt_icmp_eq (tgt := 143) dX11_goesOn_134 (by decide) (fun hc => ?_) (fun hc => ?_)
  · have H := H.1 hc
    exact xt_sub [0, 1, 2] rfl (VX11_goesOn_143 H)
  · have H := H.2 hc
    refine xt_iload_n (j := 2) dX11_goesOn_137 rfl rfl ?_
    refine xt_bipush (v := 9) dX11_goesOn_138 (by decide) ?_
    refine xt_icmp_ne (tgt := 163) dX11_goesOn_140 (by decide) (fun hc => ?_) (fun hc => ?_)
    · have H := H.1 hc
      exact xt_sub [0, 1, 2] rfl (VX11_goesOn_163 H)
    · have H := H.2 hc
      exact xt_sub [0, 1, 2] rfl (VX11_goesOn_143 H)
def DX11_goesOn_130 (h : Nat) (s0 : Int32) (M : Mem) (Q : Option Value → Mem → Prop) : Prop :=
  (s0 = 0 ∨ s0 = 1) ∧ Q (some (.int s0)) M
set_option maxRecDepth 20000 in
set_option maxHeartbeats 2000000 in
theorem VX11_goesOn_130 {h : Nat} {s0 : Int32} {M : Mem} {Q : Option Value → Mem → Prop} (H : DX11_goesOn_130 h s0 M Q) : T (h + 1) mdX11_goesOn 130 [] [.int s0] M Q := by
  unfold DX11_goesOn_130 at H
  exact xt_zreturn dX11_goesOn_130 rfl H.1 H.2
def DX11_goesOn_98 (h : Nat) (x0 : Nat) (x1 : Int32) (x2 : Int32) (x3 : Int32) (M : Mem) (Q : Option Value → Mem → Prop) : Prop :=
  (¬ x3 = 1 → DX11_goesOn_131 h x0 x1 x2 M Q) ∧
  (x3 = 1 → ok M x0 13 ∧ E h mdX11_isSaid [.ref x0, .int 1, .long 107681] M (fun r M2 => mE M M2 → ∃ r3 : Int32, r = some (.int r3) ∧ (r3 = 0 → DX11_goesOn_131 h x0 x1 x2 M2 Q) ∧
  (¬ (r3 = 0) → E h mdX11_take [.ref x0] M2 (fun r M4 => mE M2 M4 → r = none ∧ (¬ (mI M4 x0 6) = 0 → DX11_goesOn_130 h 0 M4 Q) ∧
  ((mI M4 x0 6) = 0 → DX11_goesOn_130 h 1 M4 Q)))))
set_option maxRecDepth 20000 in
set_option maxHeartbeats 2000000 in
theorem VX11_goesOn_98 {h : Nat} {x0 : Nat} {x1 : Int32} {x2 : Int32} {x3 : Int32} {M : Mem} {Q : Option Value → Mem → Prop} (H : DX11_goesOn_98 h x0 x1 x2 x3 M Q) : T (h + 1) mdX11_goesOn 98 [(0, .ref x0), (1, .int x1), (2, .int x2), (3, .int x3)] [] M Q := by
  unfold DX11_goesOn_98 at H
  refine xt_iload_n (j := 3) dX11_goesOn_98 rfl rfl ?_
  refine xt_iconst (v := 1) dX11_goesOn_99 (by decide) ?_
  refine xt_icmp_ne (tgt := 131) dX11_goesOn_100 (by decide) (fun hc => ?_) (fun hc => ?_)
  · have H := H.1 hc
    exact xt_sub [0, 1, 2] rfl (VX11_goesOn_131 H)
  · have H := H.2 hc
    refine xt_aload_n (j := 0) dX11_goesOn_103 rfl rfl ?_
    refine xt_iconst (v := 1) dX11_goesOn_104 (by decide) ?_
    refine xt_ldc2 (v := 107681) dX11_goesOn_105 (ctX11_428 rfl) ?_
    obtain ⟨ho1, H⟩ := H
    refine xt_callV (h2 := h) (as := [.int 1, .long 107681]) (st := []) dX11_goesOn_108 (mlX11_373 rfl) rfl ho1.1 ⟨by rw [ho1.2]; rfl, by rw [ho1.2]; decide⟩ (by first | decide | (simp [Value.category]; done)) (Nat.le_refl _) H (fun r M2 HH hE => ?_)
    obtain ⟨r3, hr, H⟩ := HH hE
    subst hr
    have ho1 := ok_E ho1 hE
    show T _ _ _ _ [.int r3] _ _
    refine xt_if_eq (tgt := 131) dX11_goesOn_111 (by decide) (fun hc => ?_) (fun hc => ?_)
    · have H := H.1 hc
      exact xt_sub [0, 1, 2] rfl (VX11_goesOn_131 H)
    · have H := H.2 hc
      refine xt_aload_n (j := 0) dX11_goesOn_114 rfl rfl ?_
      refine xt_callV (h2 := h) (as := []) (st := []) dX11_goesOn_115 (mlX11_377 rfl) rfl ho1.1 ⟨by rw [ho1.2]; rfl, by rw [ho1.2]; decide⟩ (by first | decide | (simp [Value.category]; done)) (Nat.le_refl _) H (fun r M4 HH hE => ?_)
      obtain ⟨hr, H⟩ := HH hE
      subst hr
      have ho1 := ok_E ho1 hE
      show T _ _ _ _ [] _ _
      refine xt_aload_n (j := 0) dX11_goesOn_118 rfl rfl ?_
      refine xt_getI dX11_goesOn_119 (flX11_360 rfl) ft_13_6 ho1.1 ho1.2 ?_
      refine xt_if_ne (tgt := 129) dX11_goesOn_122 (by decide) (fun hc => ?_) (fun hc => ?_)
      · have H := H.1 hc
        refine xt_iconst (v := 0) dX11_goesOn_129 (by decide) ?_
        exact xt_sub [] rfl (VX11_goesOn_130 H)
      · have H := H.2 hc
        refine xt_iconst (v := 1) dX11_goesOn_125 (by decide) ?_
        refine xt_goto (tgt := 130) dX11_goesOn_126 (by decide) ?_
        exact xt_sub [] rfl (VX11_goesOn_130 H)
def DX11_goesOn_75 (h : Nat) (s0 : Int32) (M : Mem) (Q : Option Value → Mem → Prop) : Prop :=
  (s0 = 0 ∨ s0 = 1) ∧ Q (some (.int s0)) M
set_option maxRecDepth 20000 in
set_option maxHeartbeats 2000000 in
theorem VX11_goesOn_75 {h : Nat} {s0 : Int32} {M : Mem} {Q : Option Value → Mem → Prop} (H : DX11_goesOn_75 h s0 M Q) : T (h + 1) mdX11_goesOn 75 [] [.int s0] M Q := by
  unfold DX11_goesOn_75 at H
  exact xt_zreturn dX11_goesOn_75 rfl H.1 H.2
def DX11_goesOn_0 (h : Nat) (x0 : Nat) (x1 : Int32) (M : Mem) (Q : Option Value → Mem → Prop) : Prop :=
  ok M x0 13 ∧ ∃ b2 : Nat, mR M x0 38 = some b2 ∧ ok M b2 21 ∧ vp_in x1 (mL M b2) ∧ ∃ b4 : Nat, mR M x0 59 = some b4 ∧ ok M b4 21 ∧ vp_in ((mI M x0 60) - 1) (mL M b4) ∧ (¬ (mAI M b2 (x1 : Int32).toNatClampNeg) = 16 → ((mAI M b2 (x1 : Int32).toNatClampNeg) = 6 → DX11_goesOn_98 h x0 x1 (mAI M b2 (x1 : Int32).toNatClampNeg) (mAI M b4 ((mI M x0 60) - 1 : Int32).toNatClampNeg) M Q) ∧
  (¬ ((mAI M b2 (x1 : Int32).toNatClampNeg) = 6) → (¬ (mAI M b2 (x1 : Int32).toNatClampNeg) = 14 → DX11_goesOn_131 h x0 x1 (mAI M b2 (x1 : Int32).toNatClampNeg) M Q) ∧
  ((mAI M b2 (x1 : Int32).toNatClampNeg) = 14 → DX11_goesOn_98 h x0 x1 (mAI M b2 (x1 : Int32).toNatClampNeg) (mAI M b4 ((mI M x0 60) - 1 : Int32).toNatClampNeg) M Q))) ∧
  ((mAI M b2 (x1 : Int32).toNatClampNeg) = 16 → E h mdX11_isSaid [.ref x0, .int 3, .long 31868] M (fun r M6 => mE M M6 → ∃ r7 : Int32, r = some (.int r7) ∧ (r7 = 0 → E h mdX11_want [.ref x0, .int 3, .long 93] M6 (fun r M8 => mE M6 M8 → r = none ∧ ((0 : Int32) = 0 ∨ (0 : Int32) = 1) ∧ Q (some (.int 0)) M8)) ∧
  (¬ (r7 = 0) → (¬ (mAI M b4 ((mI M x0 60) - 1 : Int32).toNatClampNeg) = 8 → E h mdX11_take [.ref x0] M6 (fun r M9 => mE M6 M9 → r = none ∧ (¬ (mI M9 x0 6) = 0 → DX11_goesOn_75 h 0 M9 Q) ∧
  ((mI M9 x0 6) = 0 → DX11_goesOn_75 h 1 M9 Q))) ∧
  ((mAI M b4 ((mI M x0 60) - 1 : Int32).toNatClampNeg) = 8 → ∃ b10 : Nat, mR M6 x0 3 = some b10 ∧ ok M6 b10 21 ∧ vp_in (mI M6 x0 5) (mL M6 b10) ∧ E h mdX11_fails [.ref x0, .int 6, .int (mAI M6 b10 (mI M6 x0 5 : Int32).toNatClampNeg)] M6 (fun r M12 => mE M6 M12 → r = none ∧ ((0 : Int32) = 0 ∨ (0 : Int32) = 1) ∧ Q (some (.int 0)) M12)))))
set_option maxRecDepth 20000 in
set_option maxHeartbeats 2000000 in
theorem VX11_goesOn_0 {h : Nat} {x0 : Nat} {x1 : Int32} {M : Mem} {Q : Option Value → Mem → Prop} (H : DX11_goesOn_0 h x0 x1 M Q) : T (h + 1) mdX11_goesOn 0 [(0, .ref x0), (1, .int x1)] [] M Q := by
  unfold DX11_goesOn_0 at H
  refine xt_aload_n (j := 0) dX11_goesOn_0 rfl rfl ?_
  obtain ⟨ho1, H⟩ := H
  obtain ⟨b2, hb, H⟩ := H
  refine xt_getR dX11_goesOn_1 (flX11_96 rfl) ft_13_38 ho1.1 ho1.2 hb ?_
  refine xt_iload_n (j := 1) dX11_goesOn_4 rfl rfl ?_
  obtain ⟨ho3, H⟩ := H
  obtain ⟨hi, H⟩ := H
  refine xt_iald dX11_goesOn_5 ho3.1 ho3.2 hi ?_
  refine xt_istore_n (lv' := [(2, .int (mAI M b2 (x1 : Int32).toNatClampNeg)), (0, .ref x0), (1, .int x1)]) dX11_goesOn_6 rfl (by decide) rfl ?_
  refine xt_aload_n (j := 1) dX11_goesOn_7 rfl rfl ?_
  obtain ⟨b4, hb, H⟩ := H
  refine xt_getR dX11_goesOn_8 (flX11_156 rfl) ft_13_59 ho1.1 ho1.2 hb ?_
  refine xt_aload_n (j := 1) dX11_goesOn_11 rfl rfl ?_
  refine xt_getI dX11_goesOn_12 (flX11_576 rfl) ft_13_60 ho1.1 ho1.2 ?_
  refine xt_iconst (v := 1) dX11_goesOn_15 (by decide) ?_
  refine xt_isub dX11_goesOn_16 ?_
  obtain ⟨ho5, H⟩ := H
  obtain ⟨hi, H⟩ := H
  refine xt_iald dX11_goesOn_17 ho5.1 ho5.2 hi ?_
  refine xt_istore_n (lv' := [(3, .int (mAI M b4 ((mI M x0 60) - 1 : Int32).toNatClampNeg)), (2, .int (mAI M b2 (x1 : Int32).toNatClampNeg)), (0, .ref x0), (1, .int x1)]) dX11_goesOn_18 rfl (by decide) rfl ?_
  refine xt_iload_n (j := 1) dX11_goesOn_19 rfl rfl ?_
  refine xt_bipush (v := 16) dX11_goesOn_20 (by decide) ?_
  refine xt_icmp_ne (tgt := 86) dX11_goesOn_22 (by decide) (fun hc => ?_) (fun hc => ?_)
  · have H := H.1 hc
    refine xt_iload_n (j := 1) dX11_goesOn_86 rfl rfl ?_
    refine xt_bipush (v := 6) dX11_goesOn_87 (by decide) ?_
    refine xt_icmp_eq (tgt := 98) dX11_goesOn_89 (by decide) (fun hc => ?_) (fun hc => ?_)
    · have H := H.1 hc
      exact xt_sub [2, 3, 1, 0] rfl (VX11_goesOn_98 H)
    · have H := H.2 hc
      refine xt_iload_n (j := 1) dX11_goesOn_92 rfl rfl ?_
      refine xt_bipush (v := 14) dX11_goesOn_93 (by decide) ?_
      refine xt_icmp_ne (tgt := 131) dX11_goesOn_95 (by decide) (fun hc => ?_) (fun hc => ?_)
      · have H := H.1 hc
        exact xt_sub [2, 3, 1] rfl (VX11_goesOn_131 H)
      · have H := H.2 hc
        exact xt_sub [2, 3, 1, 0] rfl (VX11_goesOn_98 H)
  · have H := H.2 hc
    refine xt_aload_n (j := 2) dX11_goesOn_25 rfl rfl ?_
    refine xt_iconst (v := 3) dX11_goesOn_26 (by decide) ?_
    refine xt_ldc2 (v := 31868) dX11_goesOn_27 (ctX11_632 rfl) ?_
    refine xt_callV (h2 := h) (as := [.int 3, .long 31868]) (st := []) dX11_goesOn_30 (mlX11_373 rfl) rfl ho1.1 ⟨by rw [ho1.2]; rfl, by rw [ho1.2]; decide⟩ (by first | decide | (simp [Value.category]; done)) (Nat.le_refl _) H (fun r M6 HH hE => ?_)
    obtain ⟨r7, hr, H⟩ := HH hE
    subst hr
    have ho1 := ok_E ho1 hE
    show T _ _ _ _ [.int r7] _ _
    refine xt_if_eq (tgt := 76) dX11_goesOn_33 (by decide) (fun hc => ?_) (fun hc => ?_)
    · have H := H.1 hc
      refine xt_aload_n (j := 2) dX11_goesOn_76 rfl rfl ?_
      refine xt_iconst (v := 3) dX11_goesOn_77 (by decide) ?_
      refine xt_ldc2 (v := 93) dX11_goesOn_78 (ctX11_634 rfl) ?_
      refine xt_callV (h2 := h) (as := [.int 3, .long 93]) (st := []) dX11_goesOn_81 (mlX11_464 rfl) rfl ho1.1 ⟨by rw [ho1.2]; rfl, by rw [ho1.2]; decide⟩ (by first | decide | (simp [Value.category]; done)) (Nat.le_refl _) H (fun r M8 HH hE => ?_)
      obtain ⟨hr, H⟩ := HH hE
      subst hr
      have ho1 := ok_E ho1 hE
      show T _ _ _ _ [] _ _
      refine xt_iconst (v := 0) dX11_goesOn_84 (by decide) ?_
      exact xt_zreturn dX11_goesOn_85 rfl H.1 H.2
    · have H := H.2 hc
      refine xt_iload_n (j := 0) dX11_goesOn_36 rfl rfl ?_
      refine xt_bipush (v := 8) dX11_goesOn_37 (by decide) ?_
      refine xt_icmp_ne (tgt := 59) dX11_goesOn_39 (by decide) (fun hc => ?_) (fun hc => ?_)
      · have H := H.1 hc
        refine xt_aload_n (j := 2) dX11_goesOn_59 rfl rfl ?_
        refine xt_callV (h2 := h) (as := []) (st := []) dX11_goesOn_60 (mlX11_377 rfl) rfl ho1.1 ⟨by rw [ho1.2]; rfl, by rw [ho1.2]; decide⟩ (by first | decide | (simp [Value.category]; done)) (Nat.le_refl _) H (fun r M9 HH hE => ?_)
        obtain ⟨hr, H⟩ := HH hE
        subst hr
        have ho1 := ok_E ho1 hE
        show T _ _ _ _ [] _ _
        refine xt_aload_n (j := 2) dX11_goesOn_63 rfl rfl ?_
        refine xt_getI dX11_goesOn_64 (flX11_360 rfl) ft_13_6 ho1.1 ho1.2 ?_
        refine xt_if_ne (tgt := 74) dX11_goesOn_67 (by decide) (fun hc => ?_) (fun hc => ?_)
        · have H := H.1 hc
          refine xt_iconst (v := 0) dX11_goesOn_74 (by decide) ?_
          exact xt_sub [] rfl (VX11_goesOn_75 H)
        · have H := H.2 hc
          refine xt_iconst (v := 1) dX11_goesOn_70 (by decide) ?_
          refine xt_goto (tgt := 75) dX11_goesOn_71 (by decide) ?_
          exact xt_sub [] rfl (VX11_goesOn_75 H)
      · have H := H.2 hc
        refine xt_aload_n (j := 2) dX11_goesOn_42 rfl rfl ?_
        refine xt_bipush (v := 6) dX11_goesOn_43 (by decide) ?_
        refine xt_aload_n (j := 2) dX11_goesOn_45 rfl rfl ?_
        obtain ⟨b10, hb, H⟩ := H
        refine xt_getR dX11_goesOn_46 (flX11_16 rfl) ft_13_3 ho1.1 ho1.2 hb ?_
        refine xt_aload_n (j := 2) dX11_goesOn_49 rfl rfl ?_
        refine xt_getI dX11_goesOn_50 (flX11_366 rfl) ft_13_5 ho1.1 ho1.2 ?_
        obtain ⟨ho11, H⟩ := H
        obtain ⟨hi, H⟩ := H
        refine xt_iald dX11_goesOn_53 ho11.1 ho11.2 hi ?_
        refine xt_callV (h2 := h) (as := [.int 6, .int (mAI M6 b10 (mI M6 x0 5 : Int32).toNatClampNeg)]) (st := []) dX11_goesOn_54 (mlX11_369 rfl) rfl ho1.1 ⟨by rw [ho1.2]; rfl, by rw [ho1.2]; decide⟩ (by first | decide | (simp [Value.category]; done)) (Nat.le_refl _) H (fun r M12 HH hE => ?_)
        obtain ⟨hr, H⟩ := HH hE
        subst hr
        have ho1 := ok_E ho1 hE
        show T _ _ _ _ [] _ _
        refine xt_iconst (v := 0) dX11_goesOn_57 (by decide) ?_
        exact xt_zreturn dX11_goesOn_58 rfl H.1 H.2
theorem KX11_goesOn {h : Nat} {x0 : Nat} {x1 : Int32} {M : Mem} {Q : Option Value → Mem → Prop} (H : DX11_goesOn_0 h x0 x1 M Q) : E (h + 1) mdX11_goesOn [.ref x0, .int x1] M Q := E.of (by decide) (Nat.le_of_ble_eq_true rfl) (fun _ _ _ => trivial) (VX11_goesOn_0 H)
def DX11_readParts_160 (h : Nat) (x1 : Int32) (M : Mem) (Q : Option Value → Mem → Prop) : Prop :=
  Q (some (.int x1)) M
set_option maxRecDepth 20000 in
set_option maxHeartbeats 2000000 in
theorem VX11_readParts_160 {h : Nat} {x1 : Int32} {M : Mem} {Q : Option Value → Mem → Prop} (H : DX11_readParts_160 h x1 M Q) : T (h + 1) mdX11_readParts 160 [(1, .int x1)] [] M Q := by
  unfold DX11_readParts_160 at H
  refine xt_iload_n (j := 0) dX11_readParts_160 rfl rfl ?_
  exact xt_ireturn dX11_readParts_161 rfl H
def DX11_readParts_157 (h : Nat) (x0 : Nat) (x1 : Int32) (x2 : Int32) (M : Mem) (Q : Option Value → Mem → Prop) : Prop :=
  T (h + 1) mdX11_readParts 22 [(0, .ref x0), (1, .int x1), (2, .int x2)] [] M Q
set_option maxRecDepth 20000 in
set_option maxHeartbeats 2000000 in
theorem VX11_readParts_157 {h : Nat} {x0 : Nat} {x1 : Int32} {x2 : Int32} {M : Mem} {Q : Option Value → Mem → Prop} (H : DX11_readParts_157 h x0 x1 x2 M Q) : T (h + 1) mdX11_readParts 157 [(0, .ref x0), (1, .int x1), (2, .int x2)] [] M Q := by
  unfold DX11_readParts_157 at H
  refine xt_goto (tgt := 22) dX11_readParts_157 (by decide) ?_
  exact xt_sub (lv' := [(0, .ref x0), (1, .int x1), (2, .int x2)]) [0, 1, 2] rfl H
def DX11_readParts_72 (h : Nat) (x0 : Nat) (x1 : Int32) (x2 : Int32) (x3 : Int32) (M : Mem) (Q : Option Value → Mem → Prop) : Prop :=
  ok M x0 13 ∧ (¬ (mI M x0 6) = 0 → DX11_readParts_157 h x0 x1 x2 M Q) ∧
  ((mI M x0 6) = 0 → ∃ b2 : Nat, mR M x0 38 = some b2 ∧ ok M b2 21 ∧ vp_in x3 (mL M b2) ∧ E h mdX11_isOpening [.int (mAI M b2 (x3 : Int32).toNatClampNeg)] M (fun r M4 => mE M M4 → ∃ r5 : Int32, r = some (.int r5) ∧ (r5 = 0 → ∃ b6 : Nat, mR M4 x0 51 = some b6 ∧ ∃ b7 : Nat, mR M4 x0 34 = some b7 ∧ ok M4 b7 21 ∧ vp_in (mI M4 x0 19) (mL M4 b7) ∧ ok M4 b6 21 ∧ vp_in x3 (mL M4 b6) ∧ ∀ M10 : Mem, M10 = wAI M4 b6 (x3 : Int32).toNatClampNeg ((40 * (mI M4 x0 19)) + (mAI M4 b7 (mI M4 x0 19 : Int32).toNatClampNeg)) →
  E h mdX11_behindPart [.ref x0] M10 (fun r M11 => mE M10 M11 → ∃ r12 : Int32, r = some (.int r12) ∧ DX11_readParts_157 h x0 x1 r12 M11 Q)) ∧
  (¬ (r5 = 0) → ∃ b13 : Nat, mR M4 x0 57 = some b13 ∧ ok M4 b13 21 ∧ vp_in (mI M4 x0 60) (mL M4 b13) ∧ ∀ M15 : Mem, M15 = wAI M4 b13 (mI M4 x0 60 : Int32).toNatClampNeg x3 →
  ∃ b16 : Nat, mR M15 x0 59 = some b16 ∧ ok M15 b16 21 ∧ vp_in (mI M15 x0 60) (mL M15 b16) ∧ ∀ M18 : Mem, M18 = wAI M15 b16 (mI M15 x0 60 : Int32).toNatClampNeg 0 →
  ∀ M19 : Mem, M19 = wI M18 x0 60 ((mI M18 x0 60) + 1) →
  E h mdX11_openRow [.ref x0, .int x3] M19 (fun r M20 => mE M19 M20 → r = none ∧ DX11_readParts_157 h x0 x1 x2 M20 Q))))
set_option maxRecDepth 20000 in
set_option maxHeartbeats 2000000 in
theorem VX11_readParts_72 {h : Nat} {x0 : Nat} {x1 : Int32} {x2 : Int32} {x3 : Int32} {M : Mem} {Q : Option Value → Mem → Prop} (H : DX11_readParts_72 h x0 x1 x2 x3 M Q) : T (h + 1) mdX11_readParts 72 [(0, .ref x0), (1, .int x1), (2, .int x2), (3, .int x3)] [] M Q := by
  unfold DX11_readParts_72 at H
  refine xt_aload_n (j := 0) dX11_readParts_72 rfl rfl ?_
  obtain ⟨ho1, H⟩ := H
  refine xt_getI dX11_readParts_73 (flX11_360 rfl) ft_13_6 ho1.1 ho1.2 ?_
  refine xt_if_ne (tgt := 157) dX11_readParts_76 (by decide) (fun hc => ?_) (fun hc => ?_)
  · have H := H.1 hc
    exact xt_sub [0, 1, 2] rfl (VX11_readParts_157 H)
  · have H := H.2 hc
    refine xt_aload_n (j := 0) dX11_readParts_79 rfl rfl ?_
    obtain ⟨b2, hb, H⟩ := H
    refine xt_getR dX11_readParts_80 (flX11_96 rfl) ft_13_38 ho1.1 ho1.2 hb ?_
    refine xt_iload_n (j := 3) dX11_readParts_83 rfl rfl ?_
    obtain ⟨ho3, H⟩ := H
    obtain ⟨hi, H⟩ := H
    refine xt_iald dX11_readParts_84 ho3.1 ho3.2 hi ?_
    refine xt_callS (h2 := h) (as := [.int (mAI M b2 (x3 : Int32).toNatClampNeg)]) (st := []) dX11_readParts_85 (mlX11_573 rfl) rfl (by first | decide | (simp [Value.category]; done)) (Nat.le_refl _) H (fun r M4 HH hE => ?_)
    obtain ⟨r5, hr, H⟩ := HH hE
    subst hr
    have ho1 := ok_E ho1 hE
    show T _ _ _ _ [.int r5] _ _
    refine xt_if_eq (tgt := 129) dX11_readParts_88 (by decide) (fun hc => ?_) (fun hc => ?_)
    · have H := H.1 hc
      refine xt_aload_n (j := 0) dX11_readParts_129 rfl rfl ?_
      obtain ⟨b6, hb, H⟩ := H
      refine xt_getR dX11_readParts_130 (flX11_135 rfl) ft_13_51 ho1.1 ho1.2 hb ?_
      refine xt_iload_n (j := 3) dX11_readParts_133 rfl rfl ?_
      refine xt_bipush (v := 40) dX11_readParts_134 (by decide) ?_
      refine xt_aload_n (j := 0) dX11_readParts_136 rfl rfl ?_
      refine xt_getI dX11_readParts_137 (flX11_450 rfl) ft_13_19 ho1.1 ho1.2 ?_
      refine xt_imul dX11_readParts_140 ?_
      refine xt_aload_n (j := 0) dX11_readParts_141 rfl rfl ?_
      obtain ⟨b7, hb, H⟩ := H
      refine xt_getR dX11_readParts_142 (flX11_84 rfl) ft_13_34 ho1.1 ho1.2 hb ?_
      refine xt_aload_n (j := 0) dX11_readParts_145 rfl rfl ?_
      refine xt_getI dX11_readParts_146 (flX11_450 rfl) ft_13_19 ho1.1 ho1.2 ?_
      obtain ⟨ho8, H⟩ := H
      obtain ⟨hi, H⟩ := H
      refine xt_iald dX11_readParts_149 ho8.1 ho8.2 hi ?_
      refine xt_iadd dX11_readParts_150 ?_
      obtain ⟨ho9, H⟩ := H
      obtain ⟨hi, H⟩ := H
      obtain ⟨M10, eM10⟩ : ∃ z, z = wAI M4 b6 (x3 : Int32).toNatClampNeg ((40 * (mI M4 x0 19)) + (mAI M4 b7 (mI M4 x0 19 : Int32).toNatClampNeg)) := ⟨_, rfl⟩
      have H := H _ eM10
      refine xt_iast dX11_readParts_151 ho9.1 ho9.2 hi ?_
      have ho1 : ok M10 x0 13 := by rw [eM10]; exact ho1
      rw [← eM10]
      refine xt_aload_n (j := 0) dX11_readParts_152 rfl rfl ?_
      refine xt_callV (h2 := h) (as := []) (st := []) dX11_readParts_153 (mlX11_645 rfl) rfl ho1.1 ⟨by rw [ho1.2]; rfl, by rw [ho1.2]; decide⟩ (by first | decide | (simp [Value.category]; done)) (Nat.le_refl _) H (fun r M11 HH hE => ?_)
      obtain ⟨r12, hr, H⟩ := HH hE
      subst hr
      have ho1 := ok_E ho1 hE
      show T _ _ _ _ [.int r12] _ _
      refine xt_istore_n (lv' := [(2, .int r12), (0, .ref x0), (1, .int x1), (3, .int x3)]) dX11_readParts_156 rfl (by decide) rfl ?_
      exact xt_sub [1, 2, 0] rfl (VX11_readParts_157 H)
    · have H := H.2 hc
      refine xt_aload_n (j := 0) dX11_readParts_91 rfl rfl ?_
      obtain ⟨b13, hb, H⟩ := H
      refine xt_getR dX11_readParts_92 (flX11_150 rfl) ft_13_57 ho1.1 ho1.2 hb ?_
      refine xt_aload_n (j := 0) dX11_readParts_95 rfl rfl ?_
      refine xt_getI dX11_readParts_96 (flX11_576 rfl) ft_13_60 ho1.1 ho1.2 ?_
      refine xt_iload_n (j := 3) dX11_readParts_99 rfl rfl ?_
      obtain ⟨ho14, H⟩ := H
      obtain ⟨hi, H⟩ := H
      obtain ⟨M15, eM15⟩ : ∃ z, z = wAI M4 b13 (mI M4 x0 60 : Int32).toNatClampNeg x3 := ⟨_, rfl⟩
      have H := H _ eM15
      refine xt_iast dX11_readParts_100 ho14.1 ho14.2 hi ?_
      have ho1 : ok M15 x0 13 := by rw [eM15]; exact ho1
      rw [← eM15]
      refine xt_aload_n (j := 0) dX11_readParts_101 rfl rfl ?_
      obtain ⟨b16, hb, H⟩ := H
      refine xt_getR dX11_readParts_102 (flX11_156 rfl) ft_13_59 ho1.1 ho1.2 hb ?_
      refine xt_aload_n (j := 0) dX11_readParts_105 rfl rfl ?_
      refine xt_getI dX11_readParts_106 (flX11_576 rfl) ft_13_60 ho1.1 ho1.2 ?_
      refine xt_iconst (v := 0) dX11_readParts_109 (by decide) ?_
      obtain ⟨ho17, H⟩ := H
      obtain ⟨hi, H⟩ := H
      obtain ⟨M18, eM18⟩ : ∃ z, z = wAI M15 b16 (mI M15 x0 60 : Int32).toNatClampNeg 0 := ⟨_, rfl⟩
      have H := H _ eM18
      refine xt_iast dX11_readParts_110 ho17.1 ho17.2 hi ?_
      have ho1 : ok M18 x0 13 := by rw [eM18]; exact ho1
      rw [← eM18]
      refine xt_aload_n (j := 0) dX11_readParts_111 rfl rfl ?_
      refine xt_dup dX11_readParts_112 rfl ?_
      refine xt_getI dX11_readParts_113 (flX11_576 rfl) ft_13_60 ho1.1 ho1.2 ?_
      refine xt_iconst (v := 1) dX11_readParts_116 (by decide) ?_
      refine xt_iadd dX11_readParts_117 ?_
      obtain ⟨M19, eM19⟩ : ∃ z, z = wI M18 x0 60 ((mI M18 x0 60) + 1) := ⟨_, rfl⟩
      have H := H _ eM19
      refine xt_putI dX11_readParts_118 (flX11_576 rfl) ty_13_60 rfl ho1.1 ho1.2 ?_
      have ho1 : ok M19 x0 13 := by rw [eM19]; exact ho1
      rw [← eM19]
      refine xt_aload_n (j := 0) dX11_readParts_121 rfl rfl ?_
      refine xt_iload_n (j := 3) dX11_readParts_122 rfl rfl ?_
      refine xt_callV (h2 := h) (as := [.int x3]) (st := []) dX11_readParts_123 (mlX11_642 rfl) rfl ho1.1 ⟨by rw [ho1.2]; rfl, by rw [ho1.2]; decide⟩ (by first | decide | (simp [Value.category]; done)) (Nat.le_refl _) H (fun r M20 HH hE => ?_)
      obtain ⟨hr, H⟩ := HH hE
      subst hr
      have ho1 := ok_E ho1 hE
      show T _ _ _ _ [] _ _
      refine xt_goto (tgt := 157) dX11_readParts_126 (by decide) ?_
      exact xt_sub [0, 1, 2] rfl (VX11_readParts_157 H)
def DX11_readParts_56 (h : Nat) (x0 : Nat) (x1 : Int32) (x2 : Int32) (s0 : Nat) (s1 : Int32) (M : Mem) (Q : Option Value → Mem → Prop) : Prop :=
  ok M s0 13 ∧ E h mdX11_beginPart [.ref s0, .int s1] M (fun r M2 => mE M M2 → ∃ r3 : Int32, r = some (.int r3) ∧ ok M2 x0 13 ∧ (¬ (mI M2 x0 6) = 0 → DX11_readParts_72 h x0 x1 x2 r3 M2 Q) ∧
  ((mI M2 x0 6) = 0 → E h mdX11_headOf [.ref x0, .int r3] M2 (fun r M5 => mE M2 M5 → r = none ∧ DX11_readParts_72 h x0 x1 x2 r3 M5 Q)))
set_option maxRecDepth 20000 in
set_option maxHeartbeats 2000000 in
theorem VX11_readParts_56 {h : Nat} {x0 : Nat} {x1 : Int32} {x2 : Int32} {s0 : Nat} {s1 : Int32} {M : Mem} {Q : Option Value → Mem → Prop} (H : DX11_readParts_56 h x0 x1 x2 s0 s1 M Q) : T (h + 1) mdX11_readParts 56 [(0, .ref x0), (1, .int x1), (2, .int x2)] [.int s1, .ref s0] M Q := by
  unfold DX11_readParts_56 at H
  obtain ⟨ho1, H⟩ := H
  refine xt_callV (h2 := h) (as := [.int s1]) (st := []) dX11_readParts_56 (mlX11_636 rfl) rfl ho1.1 ⟨by rw [ho1.2]; rfl, by rw [ho1.2]; decide⟩ (by first | decide | (simp [Value.category]; done)) (Nat.le_refl _) H (fun r M2 HH hE => ?_)
  obtain ⟨r3, hr, H⟩ := HH hE
  subst hr
  show T _ _ _ _ [.int r3] _ _
  refine xt_istore_n (lv' := [(3, .int r3), (0, .ref x0), (1, .int x1), (2, .int x2)]) dX11_readParts_59 rfl (by decide) rfl ?_
  refine xt_aload_n (j := 1) dX11_readParts_60 rfl rfl ?_
  obtain ⟨ho4, H⟩ := H
  refine xt_getI dX11_readParts_61 (flX11_360 rfl) ft_13_6 ho4.1 ho4.2 ?_
  refine xt_if_ne (tgt := 72) dX11_readParts_64 (by decide) (fun hc => ?_) (fun hc => ?_)
  · have H := H.1 hc
    exact xt_sub [1, 2, 3, 0] rfl (VX11_readParts_72 H)
  · have H := H.2 hc
    refine xt_aload_n (j := 1) dX11_readParts_67 rfl rfl ?_
    refine xt_iload_n (j := 0) dX11_readParts_68 rfl rfl ?_
    refine xt_callV (h2 := h) (as := [.int r3]) (st := []) dX11_readParts_69 (mlX11_639 rfl) rfl ho4.1 ⟨by rw [ho4.2]; rfl, by rw [ho4.2]; decide⟩ (by first | decide | (simp [Value.category]; done)) (Nat.le_refl _) H (fun r M5 HH hE => ?_)
    obtain ⟨hr, H⟩ := HH hE
    subst hr
    have ho4 := ok_E ho4 hE
    show T _ _ _ _ [] _ _
    exact xt_sub [1, 2, 3, 0] rfl (VX11_readParts_72 H)
def DX11_readParts_22 (h : Nat) (x0 : Nat) (x1 : Int32) (x2 : Int32) (M : Mem) (Q : Option Value → Mem → Prop) : Prop :=
  (x2 = 0 → DX11_readParts_160 h x1 M Q) ∧
  (¬ (x2 = 0) → ok M x0 13 ∧ (¬ (mI M x0 6) = 0 → DX11_readParts_160 h x1 M Q) ∧
  ((mI M x0 6) = 0 → (¬ (mI M x0 60) = 0 → ∃ b2 : Nat, mR M x0 58 = some b2 ∧ ok M b2 21 ∧ vp_in ((mI M x0 60) - 1) (mL M b2) ∧ DX11_readParts_56 h x0 x1 x2 x0 (mAI M b2 ((mI M x0 60) - 1 : Int32).toNatClampNeg) M Q) ∧
  ((mI M x0 60) = 0 → DX11_readParts_56 h x0 x1 x2 x0 x1 M Q)))
set_option maxRecDepth 20000 in
set_option maxHeartbeats 2000000 in
theorem VX11_readParts_22 {h : Nat} {x0 : Nat} {x1 : Int32} {x2 : Int32} {M : Mem} {Q : Option Value → Mem → Prop} (H : DX11_readParts_22 h x0 x1 x2 M Q) : T (h + 1) mdX11_readParts 22 [(0, .ref x0), (1, .int x1), (2, .int x2)] [] M Q := by
  unfold DX11_readParts_22 at H
  refine xt_iload_n (j := 2) dX11_readParts_22 rfl rfl ?_
  refine xt_if_eq (tgt := 160) dX11_readParts_23 (by decide) (fun hc => ?_) (fun hc => ?_)
  · have H := H.1 hc
    exact xt_sub [1] rfl (VX11_readParts_160 H)
  · have H := H.2 hc
    refine xt_aload_n (j := 0) dX11_readParts_26 rfl rfl ?_
    obtain ⟨ho1, H⟩ := H
    refine xt_getI dX11_readParts_27 (flX11_360 rfl) ft_13_6 ho1.1 ho1.2 ?_
    refine xt_if_ne (tgt := 160) dX11_readParts_30 (by decide) (fun hc => ?_) (fun hc => ?_)
    · have H := H.1 hc
      exact xt_sub [1] rfl (VX11_readParts_160 H)
    · have H := H.2 hc
      refine xt_aload_n (j := 0) dX11_readParts_33 rfl rfl ?_
      refine xt_aload_n (j := 0) dX11_readParts_34 rfl rfl ?_
      refine xt_getI dX11_readParts_35 (flX11_576 rfl) ft_13_60 ho1.1 ho1.2 ?_
      refine xt_if_ne (tgt := 45) dX11_readParts_38 (by decide) (fun hc => ?_) (fun hc => ?_)
      · have H := H.1 hc
        refine xt_aload_n (j := 0) dX11_readParts_45 rfl rfl ?_
        obtain ⟨b2, hb, H⟩ := H
        refine xt_getR dX11_readParts_46 (flX11_153 rfl) ft_13_58 ho1.1 ho1.2 hb ?_
        refine xt_aload_n (j := 0) dX11_readParts_49 rfl rfl ?_
        refine xt_getI dX11_readParts_50 (flX11_576 rfl) ft_13_60 ho1.1 ho1.2 ?_
        refine xt_iconst (v := 1) dX11_readParts_53 (by decide) ?_
        refine xt_isub dX11_readParts_54 ?_
        obtain ⟨ho3, H⟩ := H
        obtain ⟨hi, H⟩ := H
        refine xt_iald dX11_readParts_55 ho3.1 ho3.2 hi ?_
        exact xt_sub [0, 1, 2] rfl (VX11_readParts_56 H)
      · have H := H.2 hc
        refine xt_iload_n (j := 1) dX11_readParts_41 rfl rfl ?_
        refine xt_goto (tgt := 56) dX11_readParts_42 (by decide) ?_
        exact xt_sub [0, 1, 2] rfl (VX11_readParts_56 H)
def DX11_readParts_0 (h : Nat) (x0 : Nat) (M : Mem) (Q : Option Value → Mem → Prop) : Prop :=
  ok M x0 13 ∧ ∀ M2 : Mem, M2 = wI M x0 53 0 →
  ∀ M3 : Mem, M3 = wI M2 x0 60 0 →
  ∀ M4 : Mem, M4 = wI M3 x0 33 0 →
  E h mdX11_newSeq [.ref x0] M4 (fun r M5 => mE M4 M5 → ∃ r6 : Int32, r = some (.int r6) ∧ T (h + 1) mdX11_readParts 22 [(0, .ref x0), (1, .int r6), (2, .int 1)] [] M5 Q)
set_option maxRecDepth 20000 in
set_option maxHeartbeats 2000000 in
theorem VX11_readParts_0 {h : Nat} {x0 : Nat} {M : Mem} {Q : Option Value → Mem → Prop} (H : DX11_readParts_0 h x0 M Q) : T (h + 1) mdX11_readParts 0 [(0, .ref x0)] [] M Q := by
  unfold DX11_readParts_0 at H
  refine xt_aload_n (j := 0) dX11_readParts_0 rfl rfl ?_
  refine xt_iconst (v := 0) dX11_readParts_1 (by decide) ?_
  obtain ⟨ho1, H⟩ := H
  obtain ⟨M2, eM2⟩ : ∃ z, z = wI M x0 53 0 := ⟨_, rfl⟩
  have H := H _ eM2
  refine xt_putI dX11_readParts_2 (flX11_564 rfl) ty_13_53 rfl ho1.1 ho1.2 ?_
  have ho1 : ok M2 x0 13 := by rw [eM2]; exact ho1
  rw [← eM2]
  refine xt_aload_n (j := 0) dX11_readParts_5 rfl rfl ?_
  refine xt_iconst (v := 0) dX11_readParts_6 (by decide) ?_
  obtain ⟨M3, eM3⟩ : ∃ z, z = wI M2 x0 60 0 := ⟨_, rfl⟩
  have H := H _ eM3
  refine xt_putI dX11_readParts_7 (flX11_576 rfl) ty_13_60 rfl ho1.1 ho1.2 ?_
  have ho1 : ok M3 x0 13 := by rw [eM3]; exact ho1
  rw [← eM3]
  refine xt_aload_n (j := 0) dX11_readParts_10 rfl rfl ?_
  refine xt_iconst (v := 0) dX11_readParts_11 (by decide) ?_
  obtain ⟨M4, eM4⟩ : ∃ z, z = wI M3 x0 33 0 := ⟨_, rfl⟩
  have H := H _ eM4
  refine xt_putI dX11_readParts_12 (flX11_486 rfl) ty_13_33 rfl ho1.1 ho1.2 ?_
  have ho1 : ok M4 x0 13 := by rw [eM4]; exact ho1
  rw [← eM4]
  refine xt_aload_n (j := 0) dX11_readParts_15 rfl rfl ?_
  refine xt_callV (h2 := h) (as := []) (st := []) dX11_readParts_16 (mlX11_629 rfl) rfl ho1.1 ⟨by rw [ho1.2]; rfl, by rw [ho1.2]; decide⟩ (by first | decide | (simp [Value.category]; done)) (Nat.le_refl _) H (fun r M5 HH hE => ?_)
  obtain ⟨r6, hr, H⟩ := HH hE
  subst hr
  have ho1 := ok_E ho1 hE
  show T _ _ _ _ [.int r6] _ _
  refine xt_istore_n (lv' := [(1, .int r6), (0, .ref x0)]) dX11_readParts_19 rfl (by decide) rfl ?_
  refine xt_iconst (v := 1) dX11_readParts_20 (by decide) ?_
  refine xt_istore_n (lv' := [(2, .int 1), (1, .int r6), (0, .ref x0)]) dX11_readParts_21 rfl (by decide) rfl ?_
  exact xt_sub (lv' := [(0, .ref x0), (1, .int r6), (2, .int 1)]) [2, 1, 0] rfl H
theorem KX11_readParts {h : Nat} {x0 : Nat} {M : Mem} {Q : Option Value → Mem → Prop} (H : DX11_readParts_0 h x0 M Q) : E (h + 1) mdX11_readParts [.ref x0] M Q := E.of (by decide) (Nat.le_of_ble_eq_true rfl) (fun _ _ _ => trivial) (VX11_readParts_0 H)
def DX11_behindPart_147 (h : Nat) (x0 : Nat) (M : Mem) (Q : Option Value → Mem → Prop) : Prop :=
  T (h + 1) mdX11_behindPart 0 [(0, .ref x0)] [] M Q
set_option maxRecDepth 20000 in
set_option maxHeartbeats 2000000 in
theorem VX11_behindPart_147 {h : Nat} {x0 : Nat} {M : Mem} {Q : Option Value → Mem → Prop} (H : DX11_behindPart_147 h x0 M Q) : T (h + 1) mdX11_behindPart 147 [(0, .ref x0)] [] M Q := by
  unfold DX11_behindPart_147 at H
  refine xt_goto (tgt := 0) dX11_behindPart_147 (by decide) ?_
  exact xt_sub (lv' := [(0, .ref x0)]) [0] rfl H
def DX11_behindPart_68 (h : Nat) (M : Mem) (Q : Option Value → Mem → Prop) : Prop :=
  ((0 : Int32) = 0 ∨ (0 : Int32) = 1) ∧ Q (some (.int 0)) M
set_option maxRecDepth 20000 in
set_option maxHeartbeats 2000000 in
theorem VX11_behindPart_68 {h : Nat} {M : Mem} {Q : Option Value → Mem → Prop} (H : DX11_behindPart_68 h  M Q) : T (h + 1) mdX11_behindPart 68 [] [] M Q := by
  unfold DX11_behindPart_68 at H
  refine xt_iconst (v := 0) dX11_behindPart_68 (by decide) ?_
  exact xt_zreturn dX11_behindPart_69 rfl H.1 H.2
def DX11_behindPart_34 (h : Nat) (s0 : Int32) (M : Mem) (Q : Option Value → Mem → Prop) : Prop :=
  (s0 = 0 ∨ s0 = 1) ∧ Q (some (.int s0)) M
set_option maxRecDepth 20000 in
set_option maxHeartbeats 2000000 in
theorem VX11_behindPart_34 {h : Nat} {s0 : Int32} {M : Mem} {Q : Option Value → Mem → Prop} (H : DX11_behindPart_34 h s0 M Q) : T (h + 1) mdX11_behindPart 34 [] [.int s0] M Q := by
  unfold DX11_behindPart_34 at H
  exact xt_zreturn dX11_behindPart_34 rfl H.1 H.2
def DX11_behindPart_0 (h : Nat) (x0 : Nat) (M : Mem) (Q : Option Value → Mem → Prop) : Prop :=
  ok M x0 13 ∧ (¬ (mI M x0 6) = 0 → ((0 : Int32) = 0 ∨ (0 : Int32) = 1) ∧ Q (some (.int 0)) M) ∧
  ((mI M x0 6) = 0 → E h mdX11_isSaid [.ref x0, .int 3, .long 59] M (fun r M2 => mE M M2 → ∃ r3 : Int32, r = some (.int r3) ∧ (r3 = 0 → (¬ (mI M2 x0 60) = 0 → ∃ b4 : Nat, mR M2 x0 57 = some b4 ∧ ok M2 b4 21 ∧ vp_in ((mI M2 x0 60) - 1) (mL M2 b4) ∧ E h mdX11_goesOn [.ref x0, .int (mAI M2 b4 ((mI M2 x0 60) - 1 : Int32).toNatClampNeg)] M2 (fun r M6 => mE M2 M6 → ∃ r7 : Int32, r = some (.int r7) ∧ (r7 = 0 → (¬ (mI M6 x0 6) = 0 → DX11_behindPart_147 h x0 M6 Q) ∧
  ((mI M6 x0 6) = 0 → ∀ M8 : Mem, M8 = wI M6 x0 33 ((mI M6 x0 33) - 1) →
  ∀ M9 : Mem, M9 = wI M8 x0 60 ((mI M8 x0 60) - 1) →
  ∃ b10 : Nat, mR M9 x0 51 = some b10 ∧ ∃ b11 : Nat, mR M9 x0 34 = some b11 ∧ ok M9 b11 21 ∧ vp_in (mI M9 x0 19) (mL M9 b11) ∧ ok M9 b10 21 ∧ vp_in (mAI M2 b4 ((mI M2 x0 60) - 1 : Int32).toNatClampNeg) (mL M9 b10) ∧ ∀ M14 : Mem, M14 = wAI M9 b10 (mAI M2 b4 ((mI M2 x0 60) - 1 : Int32).toNatClampNeg : Int32).toNatClampNeg ((40 * (mI M9 x0 19)) + (mAI M9 b11 (mI M9 x0 19 : Int32).toNatClampNeg)) →
  DX11_behindPart_147 h x0 M14 Q)) ∧
  (¬ (r7 = 0) → E h mdX11_openRow [.ref x0, .int (mAI M2 b4 ((mI M2 x0 60) - 1 : Int32).toNatClampNeg)] M6 (fun r M15 => mE M6 M15 → r = none ∧ ((1 : Int32) = 0 ∨ (1 : Int32) = 1) ∧ Q (some (.int 1)) M15)))) ∧
  ((mI M2 x0 60) = 0 → ∃ b16 : Nat, mR M2 x0 2 = some b16 ∧ ok M2 b16 21 ∧ vp_in (mI M2 x0 5) (mL M2 b16) ∧ ((mAI M2 b16 (mI M2 x0 5 : Int32).toNatClampNeg) = 0 → DX11_behindPart_68 h  M2 Q) ∧
  (¬ ((mAI M2 b16 (mI M2 x0 5 : Int32).toNatClampNeg) = 0) → ∃ b18 : Nat, mR M2 x0 3 = some b18 ∧ ok M2 b18 21 ∧ vp_in (mI M2 x0 5) (mL M2 b18) ∧ E h mdX11_fails [.ref x0, .int 2, .int (mAI M2 b18 (mI M2 x0 5 : Int32).toNatClampNeg)] M2 (fun r M20 => mE M2 M20 → r = none ∧ DX11_behindPart_68 h  M20 Q)))) ∧
  (¬ (r3 = 0) → E h mdX11_take [.ref x0] M2 (fun r M21 => mE M2 M21 → r = none ∧ (¬ (mI M21 x0 6) = 0 → DX11_behindPart_34 h 0 M21 Q) ∧
  ((mI M21 x0 6) = 0 → DX11_behindPart_34 h 1 M21 Q)))))
set_option maxRecDepth 20000 in
set_option maxHeartbeats 2000000 in
theorem VX11_behindPart_0 {h : Nat} {x0 : Nat} {M : Mem} {Q : Option Value → Mem → Prop} (H : DX11_behindPart_0 h x0 M Q) : T (h + 1) mdX11_behindPart 0 [(0, .ref x0)] [] M Q := by
  unfold DX11_behindPart_0 at H
  refine xt_aload_n (j := 0) dX11_behindPart_0 rfl rfl ?_
  obtain ⟨ho1, H⟩ := H
  refine xt_getI dX11_behindPart_1 (flX11_360 rfl) ft_13_6 ho1.1 ho1.2 ?_
  refine xt_if_ne (tgt := 150) dX11_behindPart_4 (by decide) (fun hc => ?_) (fun hc => ?_)
  · have H := H.1 hc
    refine xt_iconst (v := 0) dX11_behindPart_150 (by decide) ?_
    exact xt_zreturn dX11_behindPart_151 rfl H.1 H.2
  · have H := H.2 hc
    refine xt_aload_n (j := 0) dX11_behindPart_7 rfl rfl ?_
    refine xt_iconst (v := 3) dX11_behindPart_8 (by decide) ?_
    refine xt_ldc2 (v := 59) dX11_behindPart_9 (ctX11_462 rfl) ?_
    refine xt_callV (h2 := h) (as := [.int 3, .long 59]) (st := []) dX11_behindPart_12 (mlX11_373 rfl) rfl ho1.1 ⟨by rw [ho1.2]; rfl, by rw [ho1.2]; decide⟩ (by first | decide | (simp [Value.category]; done)) (Nat.le_refl _) H (fun r M2 HH hE => ?_)
    obtain ⟨r3, hr, H⟩ := HH hE
    subst hr
    have ho1 := ok_E ho1 hE
    show T _ _ _ _ [.int r3] _ _
    refine xt_if_eq (tgt := 35) dX11_behindPart_15 (by decide) (fun hc => ?_) (fun hc => ?_)
    · have H := H.1 hc
      refine xt_aload_n (j := 0) dX11_behindPart_35 rfl rfl ?_
      refine xt_getI dX11_behindPart_36 (flX11_576 rfl) ft_13_60 ho1.1 ho1.2 ?_
      refine xt_if_ne (tgt := 70) dX11_behindPart_39 (by decide) (fun hc => ?_) (fun hc => ?_)
      · have H := H.1 hc
        refine xt_aload_n (j := 0) dX11_behindPart_70 rfl rfl ?_
        obtain ⟨b4, hb, H⟩ := H
        refine xt_getR dX11_behindPart_71 (flX11_150 rfl) ft_13_57 ho1.1 ho1.2 hb ?_
        refine xt_aload_n (j := 0) dX11_behindPart_74 rfl rfl ?_
        refine xt_getI dX11_behindPart_75 (flX11_576 rfl) ft_13_60 ho1.1 ho1.2 ?_
        refine xt_iconst (v := 1) dX11_behindPart_78 (by decide) ?_
        refine xt_isub dX11_behindPart_79 ?_
        obtain ⟨ho5, H⟩ := H
        obtain ⟨hi, H⟩ := H
        refine xt_iald dX11_behindPart_80 ho5.1 ho5.2 hi ?_
        refine xt_istore_n (lv' := [(1, .int (mAI M2 b4 ((mI M2 x0 60) - 1 : Int32).toNatClampNeg)), (0, .ref x0)]) dX11_behindPart_81 rfl (by decide) rfl ?_
        refine xt_aload_n (j := 1) dX11_behindPart_82 rfl rfl ?_
        refine xt_iload_n (j := 0) dX11_behindPart_83 rfl rfl ?_
        refine xt_callV (h2 := h) (as := [.int (mAI M2 b4 ((mI M2 x0 60) - 1 : Int32).toNatClampNeg)]) (st := []) dX11_behindPart_84 (mlX11_648 rfl) rfl ho1.1 ⟨by rw [ho1.2]; rfl, by rw [ho1.2]; decide⟩ (by first | decide | (simp [Value.category]; done)) (Nat.le_refl _) H (fun r M6 HH hE => ?_)
        obtain ⟨r7, hr, H⟩ := HH hE
        subst hr
        have ho1 := ok_E ho1 hE
        show T _ _ _ _ [.int r7] _ _
        refine xt_if_eq (tgt := 97) dX11_behindPart_87 (by decide) (fun hc => ?_) (fun hc => ?_)
        · have H := H.1 hc
          refine xt_aload_n (j := 1) dX11_behindPart_97 rfl rfl ?_
          refine xt_getI dX11_behindPart_98 (flX11_360 rfl) ft_13_6 ho1.1 ho1.2 ?_
          refine xt_if_ne (tgt := 147) dX11_behindPart_101 (by decide) (fun hc => ?_) (fun hc => ?_)
          · have H := H.1 hc
            exact xt_sub [1] rfl (VX11_behindPart_147 H)
          · have H := H.2 hc
            refine xt_aload_n (j := 1) dX11_behindPart_104 rfl rfl ?_
            refine xt_dup dX11_behindPart_105 rfl ?_
            refine xt_getI dX11_behindPart_106 (flX11_486 rfl) ft_13_33 ho1.1 ho1.2 ?_
            refine xt_iconst (v := 1) dX11_behindPart_109 (by decide) ?_
            refine xt_isub dX11_behindPart_110 ?_
            obtain ⟨M8, eM8⟩ : ∃ z, z = wI M6 x0 33 ((mI M6 x0 33) - 1) := ⟨_, rfl⟩
            have H := H _ eM8
            refine xt_putI dX11_behindPart_111 (flX11_486 rfl) ty_13_33 rfl ho1.1 ho1.2 ?_
            have ho1 : ok M8 x0 13 := by rw [eM8]; exact ho1
            rw [← eM8]
            refine xt_aload_n (j := 1) dX11_behindPart_114 rfl rfl ?_
            refine xt_dup dX11_behindPart_115 rfl ?_
            refine xt_getI dX11_behindPart_116 (flX11_576 rfl) ft_13_60 ho1.1 ho1.2 ?_
            refine xt_iconst (v := 1) dX11_behindPart_119 (by decide) ?_
            refine xt_isub dX11_behindPart_120 ?_
            obtain ⟨M9, eM9⟩ : ∃ z, z = wI M8 x0 60 ((mI M8 x0 60) - 1) := ⟨_, rfl⟩
            have H := H _ eM9
            refine xt_putI dX11_behindPart_121 (flX11_576 rfl) ty_13_60 rfl ho1.1 ho1.2 ?_
            have ho1 : ok M9 x0 13 := by rw [eM9]; exact ho1
            rw [← eM9]
            refine xt_aload_n (j := 1) dX11_behindPart_124 rfl rfl ?_
            obtain ⟨b10, hb, H⟩ := H
            refine xt_getR dX11_behindPart_125 (flX11_135 rfl) ft_13_51 ho1.1 ho1.2 hb ?_
            refine xt_iload_n (j := 0) dX11_behindPart_128 rfl rfl ?_
            refine xt_bipush (v := 40) dX11_behindPart_129 (by decide) ?_
            refine xt_aload_n (j := 1) dX11_behindPart_131 rfl rfl ?_
            refine xt_getI dX11_behindPart_132 (flX11_450 rfl) ft_13_19 ho1.1 ho1.2 ?_
            refine xt_imul dX11_behindPart_135 ?_
            refine xt_aload_n (j := 1) dX11_behindPart_136 rfl rfl ?_
            obtain ⟨b11, hb, H⟩ := H
            refine xt_getR dX11_behindPart_137 (flX11_84 rfl) ft_13_34 ho1.1 ho1.2 hb ?_
            refine xt_aload_n (j := 1) dX11_behindPart_140 rfl rfl ?_
            refine xt_getI dX11_behindPart_141 (flX11_450 rfl) ft_13_19 ho1.1 ho1.2 ?_
            obtain ⟨ho12, H⟩ := H
            obtain ⟨hi, H⟩ := H
            refine xt_iald dX11_behindPart_144 ho12.1 ho12.2 hi ?_
            refine xt_iadd dX11_behindPart_145 ?_
            obtain ⟨ho13, H⟩ := H
            obtain ⟨hi, H⟩ := H
            obtain ⟨M14, eM14⟩ : ∃ z, z = wAI M9 b10 (mAI M2 b4 ((mI M2 x0 60) - 1 : Int32).toNatClampNeg : Int32).toNatClampNeg ((40 * (mI M9 x0 19)) + (mAI M9 b11 (mI M9 x0 19 : Int32).toNatClampNeg)) := ⟨_, rfl⟩
            have H := H _ eM14
            refine xt_iast dX11_behindPart_146 ho13.1 ho13.2 hi ?_
            have ho1 : ok M14 x0 13 := by rw [eM14]; exact ho1
            rw [← eM14]
            exact xt_sub [1] rfl (VX11_behindPart_147 H)
        · have H := H.2 hc
          refine xt_aload_n (j := 1) dX11_behindPart_90 rfl rfl ?_
          refine xt_iload_n (j := 0) dX11_behindPart_91 rfl rfl ?_
          refine xt_callV (h2 := h) (as := [.int (mAI M2 b4 ((mI M2 x0 60) - 1 : Int32).toNatClampNeg)]) (st := []) dX11_behindPart_92 (mlX11_642 rfl) rfl ho1.1 ⟨by rw [ho1.2]; rfl, by rw [ho1.2]; decide⟩ (by first | decide | (simp [Value.category]; done)) (Nat.le_refl _) H (fun r M15 HH hE => ?_)
          obtain ⟨hr, H⟩ := HH hE
          subst hr
          have ho1 := ok_E ho1 hE
          show T _ _ _ _ [] _ _
          refine xt_iconst (v := 1) dX11_behindPart_95 (by decide) ?_
          exact xt_zreturn dX11_behindPart_96 rfl H.1 H.2
      · have H := H.2 hc
        refine xt_aload_n (j := 0) dX11_behindPart_42 rfl rfl ?_
        obtain ⟨b16, hb, H⟩ := H
        refine xt_getR dX11_behindPart_43 (flX11_13 rfl) ft_13_2 ho1.1 ho1.2 hb ?_
        refine xt_aload_n (j := 0) dX11_behindPart_46 rfl rfl ?_
        refine xt_getI dX11_behindPart_47 (flX11_366 rfl) ft_13_5 ho1.1 ho1.2 ?_
        obtain ⟨ho17, H⟩ := H
        obtain ⟨hi, H⟩ := H
        refine xt_iald dX11_behindPart_50 ho17.1 ho17.2 hi ?_
        refine xt_if_eq (tgt := 68) dX11_behindPart_51 (by decide) (fun hc => ?_) (fun hc => ?_)
        · have H := H.1 hc
          exact xt_sub [] rfl (VX11_behindPart_68 H)
        · have H := H.2 hc
          refine xt_aload_n (j := 0) dX11_behindPart_54 rfl rfl ?_
          refine xt_iconst (v := 2) dX11_behindPart_55 (by decide) ?_
          refine xt_aload_n (j := 0) dX11_behindPart_56 rfl rfl ?_
          obtain ⟨b18, hb, H⟩ := H
          refine xt_getR dX11_behindPart_57 (flX11_16 rfl) ft_13_3 ho1.1 ho1.2 hb ?_
          refine xt_aload_n (j := 0) dX11_behindPart_60 rfl rfl ?_
          refine xt_getI dX11_behindPart_61 (flX11_366 rfl) ft_13_5 ho1.1 ho1.2 ?_
          obtain ⟨ho19, H⟩ := H
          obtain ⟨hi, H⟩ := H
          refine xt_iald dX11_behindPart_64 ho19.1 ho19.2 hi ?_
          refine xt_callV (h2 := h) (as := [.int 2, .int (mAI M2 b18 (mI M2 x0 5 : Int32).toNatClampNeg)]) (st := []) dX11_behindPart_65 (mlX11_369 rfl) rfl ho1.1 ⟨by rw [ho1.2]; rfl, by rw [ho1.2]; decide⟩ (by first | decide | (simp [Value.category]; done)) (Nat.le_refl _) H (fun r M20 HH hE => ?_)
          obtain ⟨hr, H⟩ := HH hE
          subst hr
          have ho1 := ok_E ho1 hE
          show T _ _ _ _ [] _ _
          exact xt_sub [] rfl (VX11_behindPart_68 H)
    · have H := H.2 hc
      refine xt_aload_n (j := 0) dX11_behindPart_18 rfl rfl ?_
      refine xt_callV (h2 := h) (as := []) (st := []) dX11_behindPart_19 (mlX11_377 rfl) rfl ho1.1 ⟨by rw [ho1.2]; rfl, by rw [ho1.2]; decide⟩ (by first | decide | (simp [Value.category]; done)) (Nat.le_refl _) H (fun r M21 HH hE => ?_)
      obtain ⟨hr, H⟩ := HH hE
      subst hr
      have ho1 := ok_E ho1 hE
      show T _ _ _ _ [] _ _
      refine xt_aload_n (j := 0) dX11_behindPart_22 rfl rfl ?_
      refine xt_getI dX11_behindPart_23 (flX11_360 rfl) ft_13_6 ho1.1 ho1.2 ?_
      refine xt_if_ne (tgt := 33) dX11_behindPart_26 (by decide) (fun hc => ?_) (fun hc => ?_)
      · have H := H.1 hc
        refine xt_iconst (v := 0) dX11_behindPart_33 (by decide) ?_
        exact xt_sub [] rfl (VX11_behindPart_34 H)
      · have H := H.2 hc
        refine xt_iconst (v := 1) dX11_behindPart_29 (by decide) ?_
        refine xt_goto (tgt := 34) dX11_behindPart_30 (by decide) ?_
        exact xt_sub [] rfl (VX11_behindPart_34 H)
theorem KX11_behindPart {h : Nat} {x0 : Nat} {M : Mem} {Q : Option Value → Mem → Prop} (H : T (h + 1) mdX11_behindPart 0 [(0, .ref x0)] [] M Q) : E (h + 1) mdX11_behindPart [.ref x0] M Q := E.of (by decide) (Nat.le_of_ble_eq_true rfl) (fun _ _ _ => trivial) (xt_sub [0] rfl H)
def DX11_node_0 (h : Nat) (x0 : Nat) (x1 : Int32) (x2 : Int32) (M : Mem) (Q : Option Value → Mem → Prop) : Prop :=
  ok M x0 13 ∧ ∃ b2 : Nat, mR M x0 61 = some b2 ∧ ok M b2 21 ∧ vp_in (mI M x0 19) (mL M b2) ∧ ∃ b4 : Nat, mR M x0 61 = some b4 ∧ ok M b4 21 ∧ vp_in (mI M x0 19) (mL M b4) ∧ vp_in (mI M x0 19) (mL M b4) ∧ ∀ M6 : Mem, M6 = wAI M b4 (mI M x0 19 : Int32).toNatClampNeg ((mAI M b4 (mI M x0 19 : Int32).toNatClampNeg) + 1) →
  ∃ b7 : Nat, mR M6 x0 62 = some b7 ∧ ok M6 b7 21 ∧ vp_in ((700 * (mI M x0 19)) + (mAI M b2 (mI M x0 19 : Int32).toNatClampNeg)) (mL M6 b7) ∧ ∀ M9 : Mem, M9 = wAI M6 b7 ((700 * (mI M x0 19)) + (mAI M b2 (mI M x0 19 : Int32).toNatClampNeg) : Int32).toNatClampNeg x1 →
  ∃ b10 : Nat, mR M9 x0 63 = some b10 ∧ ok M9 b10 21 ∧ vp_in ((700 * (mI M x0 19)) + (mAI M b2 (mI M x0 19 : Int32).toNatClampNeg)) (mL M9 b10) ∧ ∀ M12 : Mem, M12 = wAI M9 b10 ((700 * (mI M x0 19)) + (mAI M b2 (mI M x0 19 : Int32).toNatClampNeg) : Int32).toNatClampNeg x2 →
  ∃ b13 : Nat, mR M12 x0 64 = some b13 ∧ ok M12 b13 21 ∧ vp_in ((700 * (mI M x0 19)) + (mAI M b2 (mI M x0 19 : Int32).toNatClampNeg)) (mL M12 b13) ∧ ∀ M15 : Mem, M15 = wAI M12 b13 ((700 * (mI M x0 19)) + (mAI M b2 (mI M x0 19 : Int32).toNatClampNeg) : Int32).toNatClampNeg (-1) →
  ∃ b16 : Nat, mR M15 x0 65 = some b16 ∧ ok M15 b16 21 ∧ vp_in ((700 * (mI M x0 19)) + (mAI M b2 (mI M x0 19 : Int32).toNatClampNeg)) (mL M15 b16) ∧ ∀ M18 : Mem, M18 = wAI M15 b16 ((700 * (mI M x0 19)) + (mAI M b2 (mI M x0 19 : Int32).toNatClampNeg) : Int32).toNatClampNeg (-1) →
  ∃ b19 : Nat, mR M18 x0 66 = some b19 ∧ ok M18 b19 21 ∧ vp_in ((700 * (mI M x0 19)) + (mAI M b2 (mI M x0 19 : Int32).toNatClampNeg)) (mL M18 b19) ∧ ∀ M21 : Mem, M21 = wAI M18 b19 ((700 * (mI M x0 19)) + (mAI M b2 (mI M x0 19 : Int32).toNatClampNeg) : Int32).toNatClampNeg (-1) →
  ∃ b22 : Nat, mR M21 x0 67 = some b22 ∧ ok M21 b22 21 ∧ vp_in ((700 * (mI M x0 19)) + (mAI M b2 (mI M x0 19 : Int32).toNatClampNeg)) (mL M21 b22) ∧ ∀ M24 : Mem, M24 = wAI M21 b22 ((700 * (mI M x0 19)) + (mAI M b2 (mI M x0 19 : Int32).toNatClampNeg) : Int32).toNatClampNeg (-1) →
  ∃ b25 : Nat, mR M24 x0 68 = some b25 ∧ ok M24 b25 21 ∧ vp_in ((700 * (mI M x0 19)) + (mAI M b2 (mI M x0 19 : Int32).toNatClampNeg)) (mL M24 b25) ∧ ∀ M27 : Mem, M27 = wAI M24 b25 ((700 * (mI M x0 19)) + (mAI M b2 (mI M x0 19 : Int32).toNatClampNeg) : Int32).toNatClampNeg (-1) →
  ∃ b28 : Nat, mR M27 x0 69 = some b28 ∧ ok M27 b28 21 ∧ vp_in ((700 * (mI M x0 19)) + (mAI M b2 (mI M x0 19 : Int32).toNatClampNeg)) (mL M27 b28) ∧ ∀ M30 : Mem, M30 = wAI M27 b28 ((700 * (mI M x0 19)) + (mAI M b2 (mI M x0 19 : Int32).toNatClampNeg) : Int32).toNatClampNeg 0 →
  ∃ b31 : Nat, mR M30 x0 70 = some b31 ∧ ok M30 b31 21 ∧ vp_in ((700 * (mI M x0 19)) + (mAI M b2 (mI M x0 19 : Int32).toNatClampNeg)) (mL M30 b31) ∧ ∀ M33 : Mem, M33 = wAI M30 b31 ((700 * (mI M x0 19)) + (mAI M b2 (mI M x0 19 : Int32).toNatClampNeg) : Int32).toNatClampNeg 0 →
  ∃ b34 : Nat, mR M33 x0 71 = some b34 ∧ ok M33 b34 21 ∧ vp_in ((700 * (mI M x0 19)) + (mAI M b2 (mI M x0 19 : Int32).toNatClampNeg)) (mL M33 b34) ∧ ∀ M36 : Mem, M36 = wAI M33 b34 ((700 * (mI M x0 19)) + (mAI M b2 (mI M x0 19 : Int32).toNatClampNeg) : Int32).toNatClampNeg 0 →
  Q (some (.int ((700 * (mI M x0 19)) + (mAI M b2 (mI M x0 19 : Int32).toNatClampNeg)))) M36
set_option maxRecDepth 20000 in
set_option maxHeartbeats 2000000 in
theorem VX11_node_0 {h : Nat} {x0 : Nat} {x1 : Int32} {x2 : Int32} {M : Mem} {Q : Option Value → Mem → Prop} (H : DX11_node_0 h x0 x1 x2 M Q) : T (h + 1) mdX11_node 0 [(0, .ref x0), (1, .int x1), (2, .int x2)] [] M Q := by
  unfold DX11_node_0 at H
  refine xt_sipush (v := 700) dX11_node_0 (by decide) ?_
  refine xt_aload_n (j := 0) dX11_node_3 rfl rfl ?_
  obtain ⟨ho1, H⟩ := H
  refine xt_getI dX11_node_4 (flX11_450 rfl) ft_13_19 ho1.1 ho1.2 ?_
  refine xt_imul dX11_node_7 ?_
  refine xt_aload_n (j := 0) dX11_node_8 rfl rfl ?_
  obtain ⟨b2, hb, H⟩ := H
  refine xt_getR dX11_node_9 (flX11_159 rfl) ft_13_61 ho1.1 ho1.2 hb ?_
  refine xt_aload_n (j := 0) dX11_node_12 rfl rfl ?_
  refine xt_getI dX11_node_13 (flX11_450 rfl) ft_13_19 ho1.1 ho1.2 ?_
  obtain ⟨ho3, H⟩ := H
  obtain ⟨hi, H⟩ := H
  refine xt_iald dX11_node_16 ho3.1 ho3.2 hi ?_
  refine xt_iadd dX11_node_17 ?_
  refine xt_istore_n (lv' := [(3, .int ((700 * (mI M x0 19)) + (mAI M b2 (mI M x0 19 : Int32).toNatClampNeg))), (0, .ref x0), (1, .int x1), (2, .int x2)]) dX11_node_18 rfl (by decide) rfl ?_
  refine xt_aload_n (j := 1) dX11_node_19 rfl rfl ?_
  obtain ⟨b4, hb, H⟩ := H
  refine xt_getR dX11_node_20 (flX11_159 rfl) ft_13_61 ho1.1 ho1.2 hb ?_
  refine xt_aload_n (j := 1) dX11_node_23 rfl rfl ?_
  refine xt_getI dX11_node_24 (flX11_450 rfl) ft_13_19 ho1.1 ho1.2 ?_
  refine xt_dup2 dX11_node_27 rfl rfl ?_
  obtain ⟨ho5, H⟩ := H
  obtain ⟨hi, H⟩ := H
  refine xt_iald dX11_node_28 ho5.1 ho5.2 hi ?_
  refine xt_iconst (v := 1) dX11_node_29 (by decide) ?_
  refine xt_iadd dX11_node_30 ?_
  obtain ⟨hi, H⟩ := H
  obtain ⟨M6, eM6⟩ : ∃ z, z = wAI M b4 (mI M x0 19 : Int32).toNatClampNeg ((mAI M b4 (mI M x0 19 : Int32).toNatClampNeg) + 1) := ⟨_, rfl⟩
  have H := H _ eM6
  refine xt_iast dX11_node_31 ho5.1 ho5.2 hi ?_
  have ho1 : ok M6 x0 13 := by rw [eM6]; exact ho1
  rw [← eM6]
  refine xt_aload_n (j := 1) dX11_node_32 rfl rfl ?_
  obtain ⟨b7, hb, H⟩ := H
  refine xt_getR dX11_node_33 (flX11_162 rfl) ft_13_62 ho1.1 ho1.2 hb ?_
  refine xt_iload_n (j := 0) dX11_node_36 rfl rfl ?_
  refine xt_iload_n (j := 2) dX11_node_37 rfl rfl ?_
  obtain ⟨ho8, H⟩ := H
  obtain ⟨hi, H⟩ := H
  obtain ⟨M9, eM9⟩ : ∃ z, z = wAI M6 b7 ((700 * (mI M x0 19)) + (mAI M b2 (mI M x0 19 : Int32).toNatClampNeg) : Int32).toNatClampNeg x1 := ⟨_, rfl⟩
  have H := H _ eM9
  refine xt_iast dX11_node_38 ho8.1 ho8.2 hi ?_
  have ho1 : ok M9 x0 13 := by rw [eM9]; exact ho1
  rw [← eM9]
  refine xt_aload_n (j := 1) dX11_node_39 rfl rfl ?_
  obtain ⟨b10, hb, H⟩ := H
  refine xt_getR dX11_node_40 (flX11_165 rfl) ft_13_63 ho1.1 ho1.2 hb ?_
  refine xt_iload_n (j := 0) dX11_node_43 rfl rfl ?_
  refine xt_iload_n (j := 3) dX11_node_44 rfl rfl ?_
  obtain ⟨ho11, H⟩ := H
  obtain ⟨hi, H⟩ := H
  obtain ⟨M12, eM12⟩ : ∃ z, z = wAI M9 b10 ((700 * (mI M x0 19)) + (mAI M b2 (mI M x0 19 : Int32).toNatClampNeg) : Int32).toNatClampNeg x2 := ⟨_, rfl⟩
  have H := H _ eM12
  refine xt_iast dX11_node_45 ho11.1 ho11.2 hi ?_
  have ho1 : ok M12 x0 13 := by rw [eM12]; exact ho1
  rw [← eM12]
  refine xt_aload_n (j := 1) dX11_node_46 rfl rfl ?_
  obtain ⟨b13, hb, H⟩ := H
  refine xt_getR dX11_node_47 (flX11_168 rfl) ft_13_64 ho1.1 ho1.2 hb ?_
  refine xt_iload_n (j := 0) dX11_node_50 rfl rfl ?_
  refine xt_iconst (v := -1) dX11_node_51 (by decide) ?_
  obtain ⟨ho14, H⟩ := H
  obtain ⟨hi, H⟩ := H
  obtain ⟨M15, eM15⟩ : ∃ z, z = wAI M12 b13 ((700 * (mI M x0 19)) + (mAI M b2 (mI M x0 19 : Int32).toNatClampNeg) : Int32).toNatClampNeg (-1) := ⟨_, rfl⟩
  have H := H _ eM15
  refine xt_iast dX11_node_52 ho14.1 ho14.2 hi ?_
  have ho1 : ok M15 x0 13 := by rw [eM15]; exact ho1
  rw [← eM15]
  refine xt_aload_n (j := 1) dX11_node_53 rfl rfl ?_
  obtain ⟨b16, hb, H⟩ := H
  refine xt_getR dX11_node_54 (flX11_171 rfl) ft_13_65 ho1.1 ho1.2 hb ?_
  refine xt_iload_n (j := 0) dX11_node_57 rfl rfl ?_
  refine xt_iconst (v := -1) dX11_node_58 (by decide) ?_
  obtain ⟨ho17, H⟩ := H
  obtain ⟨hi, H⟩ := H
  obtain ⟨M18, eM18⟩ : ∃ z, z = wAI M15 b16 ((700 * (mI M x0 19)) + (mAI M b2 (mI M x0 19 : Int32).toNatClampNeg) : Int32).toNatClampNeg (-1) := ⟨_, rfl⟩
  have H := H _ eM18
  refine xt_iast dX11_node_59 ho17.1 ho17.2 hi ?_
  have ho1 : ok M18 x0 13 := by rw [eM18]; exact ho1
  rw [← eM18]
  refine xt_aload_n (j := 1) dX11_node_60 rfl rfl ?_
  obtain ⟨b19, hb, H⟩ := H
  refine xt_getR dX11_node_61 (flX11_174 rfl) ft_13_66 ho1.1 ho1.2 hb ?_
  refine xt_iload_n (j := 0) dX11_node_64 rfl rfl ?_
  refine xt_iconst (v := -1) dX11_node_65 (by decide) ?_
  obtain ⟨ho20, H⟩ := H
  obtain ⟨hi, H⟩ := H
  obtain ⟨M21, eM21⟩ : ∃ z, z = wAI M18 b19 ((700 * (mI M x0 19)) + (mAI M b2 (mI M x0 19 : Int32).toNatClampNeg) : Int32).toNatClampNeg (-1) := ⟨_, rfl⟩
  have H := H _ eM21
  refine xt_iast dX11_node_66 ho20.1 ho20.2 hi ?_
  have ho1 : ok M21 x0 13 := by rw [eM21]; exact ho1
  rw [← eM21]
  refine xt_aload_n (j := 1) dX11_node_67 rfl rfl ?_
  obtain ⟨b22, hb, H⟩ := H
  refine xt_getR dX11_node_68 (flX11_177 rfl) ft_13_67 ho1.1 ho1.2 hb ?_
  refine xt_iload_n (j := 0) dX11_node_71 rfl rfl ?_
  refine xt_iconst (v := -1) dX11_node_72 (by decide) ?_
  obtain ⟨ho23, H⟩ := H
  obtain ⟨hi, H⟩ := H
  obtain ⟨M24, eM24⟩ : ∃ z, z = wAI M21 b22 ((700 * (mI M x0 19)) + (mAI M b2 (mI M x0 19 : Int32).toNatClampNeg) : Int32).toNatClampNeg (-1) := ⟨_, rfl⟩
  have H := H _ eM24
  refine xt_iast dX11_node_73 ho23.1 ho23.2 hi ?_
  have ho1 : ok M24 x0 13 := by rw [eM24]; exact ho1
  rw [← eM24]
  refine xt_aload_n (j := 1) dX11_node_74 rfl rfl ?_
  obtain ⟨b25, hb, H⟩ := H
  refine xt_getR dX11_node_75 (flX11_180 rfl) ft_13_68 ho1.1 ho1.2 hb ?_
  refine xt_iload_n (j := 0) dX11_node_78 rfl rfl ?_
  refine xt_iconst (v := -1) dX11_node_79 (by decide) ?_
  obtain ⟨ho26, H⟩ := H
  obtain ⟨hi, H⟩ := H
  obtain ⟨M27, eM27⟩ : ∃ z, z = wAI M24 b25 ((700 * (mI M x0 19)) + (mAI M b2 (mI M x0 19 : Int32).toNatClampNeg) : Int32).toNatClampNeg (-1) := ⟨_, rfl⟩
  have H := H _ eM27
  refine xt_iast dX11_node_80 ho26.1 ho26.2 hi ?_
  have ho1 : ok M27 x0 13 := by rw [eM27]; exact ho1
  rw [← eM27]
  refine xt_aload_n (j := 1) dX11_node_81 rfl rfl ?_
  obtain ⟨b28, hb, H⟩ := H
  refine xt_getR dX11_node_82 (flX11_183 rfl) ft_13_69 ho1.1 ho1.2 hb ?_
  refine xt_iload_n (j := 0) dX11_node_85 rfl rfl ?_
  refine xt_iconst (v := 0) dX11_node_86 (by decide) ?_
  obtain ⟨ho29, H⟩ := H
  obtain ⟨hi, H⟩ := H
  obtain ⟨M30, eM30⟩ : ∃ z, z = wAI M27 b28 ((700 * (mI M x0 19)) + (mAI M b2 (mI M x0 19 : Int32).toNatClampNeg) : Int32).toNatClampNeg 0 := ⟨_, rfl⟩
  have H := H _ eM30
  refine xt_iast dX11_node_87 ho29.1 ho29.2 hi ?_
  have ho1 : ok M30 x0 13 := by rw [eM30]; exact ho1
  rw [← eM30]
  refine xt_aload_n (j := 1) dX11_node_88 rfl rfl ?_
  obtain ⟨b31, hb, H⟩ := H
  refine xt_getR dX11_node_89 (flX11_186 rfl) ft_13_70 ho1.1 ho1.2 hb ?_
  refine xt_iload_n (j := 0) dX11_node_92 rfl rfl ?_
  refine xt_iconst (v := 0) dX11_node_93 (by decide) ?_
  obtain ⟨ho32, H⟩ := H
  obtain ⟨hi, H⟩ := H
  obtain ⟨M33, eM33⟩ : ∃ z, z = wAI M30 b31 ((700 * (mI M x0 19)) + (mAI M b2 (mI M x0 19 : Int32).toNatClampNeg) : Int32).toNatClampNeg 0 := ⟨_, rfl⟩
  have H := H _ eM33
  refine xt_iast dX11_node_94 ho32.1 ho32.2 hi ?_
  have ho1 : ok M33 x0 13 := by rw [eM33]; exact ho1
  rw [← eM33]
  refine xt_aload_n (j := 1) dX11_node_95 rfl rfl ?_
  obtain ⟨b34, hb, H⟩ := H
  refine xt_getR dX11_node_96 (flX11_189 rfl) ft_13_71 ho1.1 ho1.2 hb ?_
  refine xt_iload_n (j := 0) dX11_node_99 rfl rfl ?_
  refine xt_iconst (v := 0) dX11_node_100 (by decide) ?_
  obtain ⟨ho35, H⟩ := H
  obtain ⟨hi, H⟩ := H
  obtain ⟨M36, eM36⟩ : ∃ z, z = wAI M33 b34 ((700 * (mI M x0 19)) + (mAI M b2 (mI M x0 19 : Int32).toNatClampNeg) : Int32).toNatClampNeg 0 := ⟨_, rfl⟩
  have H := H _ eM36
  refine xt_iast dX11_node_101 ho35.1 ho35.2 hi ?_
  have ho1 : ok M36 x0 13 := by rw [eM36]; exact ho1
  rw [← eM36]
  refine xt_iload_n (j := 0) dX11_node_102 rfl rfl ?_
  exact xt_ireturn dX11_node_103 rfl H
theorem KX11_node {h : Nat} {x0 : Nat} {x1 : Int32} {x2 : Int32} {M : Mem} {Q : Option Value → Mem → Prop} (H : DX11_node_0 h x0 x1 x2 M Q) : E (h + 1) mdX11_node [.ref x0, .int x1, .int x2] M Q := E.of (by decide) (Nat.le_of_ble_eq_true rfl) (fun _ _ _ => trivial) (VX11_node_0 H)
def DX11_adopt_44 (h : Nat) (x0 : Nat) (x1 : Int32) (x2 : Int32) (M : Mem) (Q : Option Value → Mem → Prop) : Prop :=
  ok M x0 13 ∧ ∃ b2 : Nat, mR M x0 65 = some b2 ∧ ok M b2 21 ∧ vp_in x1 (mL M b2) ∧ ∀ M4 : Mem, M4 = wAI M b2 (x1 : Int32).toNatClampNeg x2 →
  ∃ b5 : Nat, mR M4 x0 68 = some b5 ∧ ok M4 b5 21 ∧ vp_in x2 (mL M4 b5) ∧ ∀ M7 : Mem, M7 = wAI M4 b5 (x2 : Int32).toNatClampNeg x1 →
  Q none M7
set_option maxRecDepth 20000 in
set_option maxHeartbeats 2000000 in
theorem VX11_adopt_44 {h : Nat} {x0 : Nat} {x1 : Int32} {x2 : Int32} {M : Mem} {Q : Option Value → Mem → Prop} (H : DX11_adopt_44 h x0 x1 x2 M Q) : T (h + 1) mdX11_adopt 44 [(0, .ref x0), (1, .int x1), (2, .int x2)] [] M Q := by
  unfold DX11_adopt_44 at H
  refine xt_aload_n (j := 0) dX11_adopt_44 rfl rfl ?_
  obtain ⟨ho1, H⟩ := H
  obtain ⟨b2, hb, H⟩ := H
  refine xt_getR dX11_adopt_45 (flX11_171 rfl) ft_13_65 ho1.1 ho1.2 hb ?_
  refine xt_iload_n (j := 1) dX11_adopt_48 rfl rfl ?_
  refine xt_iload_n (j := 2) dX11_adopt_49 rfl rfl ?_
  obtain ⟨ho3, H⟩ := H
  obtain ⟨hi, H⟩ := H
  obtain ⟨M4, eM4⟩ : ∃ z, z = wAI M b2 (x1 : Int32).toNatClampNeg x2 := ⟨_, rfl⟩
  have H := H _ eM4
  refine xt_iast dX11_adopt_50 ho3.1 ho3.2 hi ?_
  have ho1 : ok M4 x0 13 := by rw [eM4]; exact ho1
  rw [← eM4]
  refine xt_aload_n (j := 0) dX11_adopt_51 rfl rfl ?_
  obtain ⟨b5, hb, H⟩ := H
  refine xt_getR dX11_adopt_52 (flX11_180 rfl) ft_13_68 ho1.1 ho1.2 hb ?_
  refine xt_iload_n (j := 2) dX11_adopt_55 rfl rfl ?_
  refine xt_iload_n (j := 1) dX11_adopt_56 rfl rfl ?_
  obtain ⟨ho6, H⟩ := H
  obtain ⟨hi, H⟩ := H
  obtain ⟨M7, eM7⟩ : ∃ z, z = wAI M4 b5 (x2 : Int32).toNatClampNeg x1 := ⟨_, rfl⟩
  have H := H _ eM7
  refine xt_iast dX11_adopt_57 ho6.1 ho6.2 hi ?_
  have ho1 : ok M7 x0 13 := by rw [eM7]; exact ho1
  rw [← eM7]
  exact xt_return dX11_adopt_58 rfl H
def DX11_adopt_0 (h : Nat) (x0 : Nat) (x1 : Int32) (x2 : Int32) (M : Mem) (Q : Option Value → Mem → Prop) : Prop :=
  ok M x0 13 ∧ ∃ b2 : Nat, mR M x0 64 = some b2 ∧ ok M b2 21 ∧ vp_in x1 (mL M b2) ∧ (¬ (mAI M b2 (x1 : Int32).toNatClampNeg) = (-1) → ∃ b4 : Nat, mR M x0 66 = some b4 ∧ ∃ b5 : Nat, mR M x0 65 = some b5 ∧ ok M b5 21 ∧ vp_in x1 (mL M b5) ∧ ok M b4 21 ∧ vp_in (mAI M b5 (x1 : Int32).toNatClampNeg) (mL M b4) ∧ ∀ M8 : Mem, M8 = wAI M b4 (mAI M b5 (x1 : Int32).toNatClampNeg : Int32).toNatClampNeg x2 →
  ∃ b9 : Nat, mR M8 x0 67 = some b9 ∧ ∃ b10 : Nat, mR M8 x0 65 = some b10 ∧ ok M8 b10 21 ∧ vp_in x1 (mL M8 b10) ∧ ok M8 b9 21 ∧ vp_in x2 (mL M8 b9) ∧ ∀ M13 : Mem, M13 = wAI M8 b9 (x2 : Int32).toNatClampNeg (mAI M8 b10 (x1 : Int32).toNatClampNeg) →
  DX11_adopt_44 h x0 x1 x2 M13 Q) ∧
  ((mAI M b2 (x1 : Int32).toNatClampNeg) = (-1) → ∃ b14 : Nat, mR M x0 64 = some b14 ∧ ok M b14 21 ∧ vp_in x1 (mL M b14) ∧ ∀ M16 : Mem, M16 = wAI M b14 (x1 : Int32).toNatClampNeg x2 →
  DX11_adopt_44 h x0 x1 x2 M16 Q)
set_option maxRecDepth 20000 in
set_option maxHeartbeats 2000000 in
theorem VX11_adopt_0 {h : Nat} {x0 : Nat} {x1 : Int32} {x2 : Int32} {M : Mem} {Q : Option Value → Mem → Prop} (H : DX11_adopt_0 h x0 x1 x2 M Q) : T (h + 1) mdX11_adopt 0 [(0, .ref x0), (1, .int x1), (2, .int x2)] [] M Q := by
  unfold DX11_adopt_0 at H
  refine xt_aload_n (j := 0) dX11_adopt_0 rfl rfl ?_
  obtain ⟨ho1, H⟩ := H
  obtain ⟨b2, hb, H⟩ := H
  refine xt_getR dX11_adopt_1 (flX11_168 rfl) ft_13_64 ho1.1 ho1.2 hb ?_
  refine xt_iload_n (j := 1) dX11_adopt_4 rfl rfl ?_
  obtain ⟨ho3, H⟩ := H
  obtain ⟨hi, H⟩ := H
  refine xt_iald dX11_adopt_5 ho3.1 ho3.2 hi ?_
  refine xt_iconst (v := -1) dX11_adopt_6 (by decide) ?_
  refine xt_icmp_ne (tgt := 20) dX11_adopt_7 (by decide) (fun hc => ?_) (fun hc => ?_)
  · have H := H.1 hc
    refine xt_aload_n (j := 0) dX11_adopt_20 rfl rfl ?_
    obtain ⟨b4, hb, H⟩ := H
    refine xt_getR dX11_adopt_21 (flX11_174 rfl) ft_13_66 ho1.1 ho1.2 hb ?_
    refine xt_aload_n (j := 0) dX11_adopt_24 rfl rfl ?_
    obtain ⟨b5, hb, H⟩ := H
    refine xt_getR dX11_adopt_25 (flX11_171 rfl) ft_13_65 ho1.1 ho1.2 hb ?_
    refine xt_iload_n (j := 1) dX11_adopt_28 rfl rfl ?_
    obtain ⟨ho6, H⟩ := H
    obtain ⟨hi, H⟩ := H
    refine xt_iald dX11_adopt_29 ho6.1 ho6.2 hi ?_
    refine xt_iload_n (j := 2) dX11_adopt_30 rfl rfl ?_
    obtain ⟨ho7, H⟩ := H
    obtain ⟨hi, H⟩ := H
    obtain ⟨M8, eM8⟩ : ∃ z, z = wAI M b4 (mAI M b5 (x1 : Int32).toNatClampNeg : Int32).toNatClampNeg x2 := ⟨_, rfl⟩
    have H := H _ eM8
    refine xt_iast dX11_adopt_31 ho7.1 ho7.2 hi ?_
    have ho1 : ok M8 x0 13 := by rw [eM8]; exact ho1
    rw [← eM8]
    refine xt_aload_n (j := 0) dX11_adopt_32 rfl rfl ?_
    obtain ⟨b9, hb, H⟩ := H
    refine xt_getR dX11_adopt_33 (flX11_177 rfl) ft_13_67 ho1.1 ho1.2 hb ?_
    refine xt_iload_n (j := 2) dX11_adopt_36 rfl rfl ?_
    refine xt_aload_n (j := 0) dX11_adopt_37 rfl rfl ?_
    obtain ⟨b10, hb, H⟩ := H
    refine xt_getR dX11_adopt_38 (flX11_171 rfl) ft_13_65 ho1.1 ho1.2 hb ?_
    refine xt_iload_n (j := 1) dX11_adopt_41 rfl rfl ?_
    obtain ⟨ho11, H⟩ := H
    obtain ⟨hi, H⟩ := H
    refine xt_iald dX11_adopt_42 ho11.1 ho11.2 hi ?_
    obtain ⟨ho12, H⟩ := H
    obtain ⟨hi, H⟩ := H
    obtain ⟨M13, eM13⟩ : ∃ z, z = wAI M8 b9 (x2 : Int32).toNatClampNeg (mAI M8 b10 (x1 : Int32).toNatClampNeg) := ⟨_, rfl⟩
    have H := H _ eM13
    refine xt_iast dX11_adopt_43 ho12.1 ho12.2 hi ?_
    have ho1 : ok M13 x0 13 := by rw [eM13]; exact ho1
    rw [← eM13]
    exact xt_sub [0, 1, 2] rfl (VX11_adopt_44 H)
  · have H := H.2 hc
    refine xt_aload_n (j := 0) dX11_adopt_10 rfl rfl ?_
    obtain ⟨b14, hb, H⟩ := H
    refine xt_getR dX11_adopt_11 (flX11_168 rfl) ft_13_64 ho1.1 ho1.2 hb ?_
    refine xt_iload_n (j := 1) dX11_adopt_14 rfl rfl ?_
    refine xt_iload_n (j := 2) dX11_adopt_15 rfl rfl ?_
    obtain ⟨ho15, H⟩ := H
    obtain ⟨hi, H⟩ := H
    obtain ⟨M16, eM16⟩ : ∃ z, z = wAI M b14 (x1 : Int32).toNatClampNeg x2 := ⟨_, rfl⟩
    have H := H _ eM16
    refine xt_iast dX11_adopt_16 ho15.1 ho15.2 hi ?_
    have ho1 : ok M16 x0 13 := by rw [eM16]; exact ho1
    rw [← eM16]
    refine xt_goto (tgt := 44) dX11_adopt_17 (by decide) ?_
    exact xt_sub [0, 1, 2] rfl (VX11_adopt_44 H)
theorem KX11_adopt {h : Nat} {x0 : Nat} {x1 : Int32} {x2 : Int32} {M : Mem} {Q : Option Value → Mem → Prop} (H : DX11_adopt_0 h x0 x1 x2 M Q) : E (h + 1) mdX11_adopt [.ref x0, .int x1, .int x2] M Q := E.of (by decide) (Nat.le_of_ble_eq_true rfl) (fun _ _ _ => trivial) (VX11_adopt_0 H)
def DX11_over_29 (h : Nat) (x5 : Int32) (M : Mem) (Q : Option Value → Mem → Prop) : Prop :=
  Q (some (.int x5)) M
set_option maxRecDepth 20000 in
set_option maxHeartbeats 2000000 in
theorem VX11_over_29 {h : Nat} {x5 : Int32} {M : Mem} {Q : Option Value → Mem → Prop} (H : DX11_over_29 h x5 M Q) : T (h + 1) mdX11_over 29 [(5, .int x5)] [] M Q := by
  unfold DX11_over_29 at H
  refine xt_iload (j := 0) dX11_over_29 rfl ?_
  exact xt_ireturn dX11_over_31 rfl H
def DX11_over_0 (h : Nat) (x0 : Nat) (x1 : Int32) (x2 : Int32) (x3 : Int32) (x4 : Int32) (M : Mem) (Q : Option Value → Mem → Prop) : Prop :=
  ok M x0 13 ∧ E h mdX11_node [.ref x0, .int x1, .int x2] M (fun r M2 => mE M M2 → ∃ r3 : Int32, r = some (.int r3) ∧ E h mdX11_adopt [.ref x0, .int r3, .int x3] M2 (fun r M4 => mE M2 M4 → r = none ∧ (x4 = (-1) → DX11_over_29 h r3 M4 Q) ∧
  (¬ (x4 = (-1)) → E h mdX11_adopt [.ref x0, .int r3, .int x4] M4 (fun r M5 => mE M4 M5 → r = none ∧ DX11_over_29 h r3 M5 Q))))
set_option maxRecDepth 20000 in
set_option maxHeartbeats 2000000 in
theorem VX11_over_0 {h : Nat} {x0 : Nat} {x1 : Int32} {x2 : Int32} {x3 : Int32} {x4 : Int32} {M : Mem} {Q : Option Value → Mem → Prop} (H : DX11_over_0 h x0 x1 x2 x3 x4 M Q) : T (h + 1) mdX11_over 0 [(0, .ref x0), (1, .int x1), (2, .int x2), (3, .int x3), (4, .int x4)] [] M Q := by
  unfold DX11_over_0 at H
  refine xt_aload_n (j := 0) dX11_over_0 rfl rfl ?_
  refine xt_iload_n (j := 1) dX11_over_1 rfl rfl ?_
  refine xt_iload_n (j := 2) dX11_over_2 rfl rfl ?_
  obtain ⟨ho1, H⟩ := H
  refine xt_callV (h2 := h) (as := [.int x1, .int x2]) (st := []) dX11_over_3 (mlX11_651 rfl) rfl ho1.1 ⟨by rw [ho1.2]; rfl, by rw [ho1.2]; decide⟩ (by first | decide | (simp [Value.category]; done)) (Nat.le_refl _) H (fun r M2 HH hE => ?_)
  obtain ⟨r3, hr, H⟩ := HH hE
  subst hr
  have ho1 := ok_E ho1 hE
  show T _ _ _ _ [.int r3] _ _
  refine xt_istore (lv' := [(5, .int r3), (0, .ref x0), (1, .int x1), (2, .int x2), (3, .int x3), (4, .int x4)]) dX11_over_6 (by decide) rfl ?_
  refine xt_aload_n (j := 1) dX11_over_8 rfl rfl ?_
  refine xt_iload (j := 0) dX11_over_9 rfl ?_
  refine xt_iload_n (j := 4) dX11_over_11 rfl rfl ?_
  refine xt_callV (h2 := h) (as := [.int r3, .int x3]) (st := []) dX11_over_12 (mlX11_655 rfl) rfl ho1.1 ⟨by rw [ho1.2]; rfl, by rw [ho1.2]; decide⟩ (by first | decide | (simp [Value.category]; done)) (Nat.le_refl _) H (fun r M4 HH hE => ?_)
  obtain ⟨hr, H⟩ := HH hE
  subst hr
  have ho1 := ok_E ho1 hE
  show T _ _ _ _ [] _ _
  refine xt_iload (j := 5) dX11_over_15 rfl ?_
  refine xt_iconst (v := -1) dX11_over_17 (by decide) ?_
  refine xt_icmp_eq (tgt := 29) dX11_over_18 (by decide) (fun hc => ?_) (fun hc => ?_)
  · have H := H.1 hc
    exact xt_sub [0] rfl (VX11_over_29 H)
  · have H := H.2 hc
    refine xt_aload_n (j := 1) dX11_over_21 rfl rfl ?_
    refine xt_iload (j := 0) dX11_over_22 rfl ?_
    refine xt_iload (j := 5) dX11_over_24 rfl ?_
    refine xt_callV (h2 := h) (as := [.int r3, .int x4]) (st := []) dX11_over_26 (mlX11_655 rfl) rfl ho1.1 ⟨by rw [ho1.2]; rfl, by rw [ho1.2]; decide⟩ (by first | decide | (simp [Value.category]; done)) (Nat.le_refl _) H (fun r M5 HH hE => ?_)
    obtain ⟨hr, H⟩ := HH hE
    subst hr
    have ho1 := ok_E ho1 hE
    show T _ _ _ _ [] _ _
    exact xt_sub [0] rfl (VX11_over_29 H)
theorem KX11_over {h : Nat} {x0 : Nat} {x1 : Int32} {x2 : Int32} {x3 : Int32} {x4 : Int32} {M : Mem} {Q : Option Value → Mem → Prop} (H : DX11_over_0 h x0 x1 x2 x3 x4 M Q) : E (h + 1) mdX11_over [.ref x0, .int x1, .int x2, .int x3, .int x4] M Q := E.of (by decide) (Nat.le_of_ble_eq_true rfl) (fun _ _ _ => trivial) (VX11_over_0 H)
def DX11_rowNode_32 (h : Nat) (x0 : Nat) (x2 : Int32) (x3 : Int32) (M : Mem) (Q : Option Value → Mem → Prop) : Prop :=
  (x2 = (-1) → Q (some (.int x3)) M) ∧
  (¬ (x2 = (-1)) → ok M x0 13 ∧ ∃ b2 : Nat, mR M x0 72 = some b2 ∧ ok M b2 21 ∧ vp_in x2 (mL M b2) ∧ E h mdX11_adopt [.ref x0, .int x3, .int (mAI M b2 (x2 : Int32).toNatClampNeg)] M (fun r M4 => mE M M4 → r = none ∧ ∃ b5 : Nat, mR M4 x0 50 = some b5 ∧ ok M4 b5 21 ∧ vp_in x2 (mL M4 b5) ∧ T (h + 1) mdX11_rowNode 32 [(0, .ref x0), (2, .int (mAI M4 b5 (x2 : Int32).toNatClampNeg)), (3, .int x3)] [] M4 Q))
set_option maxRecDepth 20000 in
set_option maxHeartbeats 2000000 in
theorem VX11_rowNode_32 {h : Nat} {x0 : Nat} {x2 : Int32} {x3 : Int32} {M : Mem} {Q : Option Value → Mem → Prop} (H : DX11_rowNode_32 h x0 x2 x3 M Q) : T (h + 1) mdX11_rowNode 32 [(0, .ref x0), (2, .int x2), (3, .int x3)] [] M Q := by
  unfold DX11_rowNode_32 at H
  refine xt_iload_n (j := 1) dX11_rowNode_32 rfl rfl ?_
  refine xt_iconst (v := -1) dX11_rowNode_33 (by decide) ?_
  refine xt_icmp_eq (tgt := 58) dX11_rowNode_34 (by decide) (fun hc => ?_) (fun hc => ?_)
  · have H := H.1 hc
    refine xt_iload_n (j := 2) dX11_rowNode_58 rfl rfl ?_
    exact xt_ireturn dX11_rowNode_59 rfl H
  · have H := H.2 hc
    refine xt_aload_n (j := 0) dX11_rowNode_37 rfl rfl ?_
    refine xt_iload_n (j := 2) dX11_rowNode_38 rfl rfl ?_
    refine xt_aload_n (j := 0) dX11_rowNode_39 rfl rfl ?_
    obtain ⟨ho1, H⟩ := H
    obtain ⟨b2, hb, H⟩ := H
    refine xt_getR dX11_rowNode_40 (flX11_192 rfl) ft_13_72 ho1.1 ho1.2 hb ?_
    refine xt_iload_n (j := 1) dX11_rowNode_43 rfl rfl ?_
    obtain ⟨ho3, H⟩ := H
    obtain ⟨hi, H⟩ := H
    refine xt_iald dX11_rowNode_44 ho3.1 ho3.2 hi ?_
    refine xt_callV (h2 := h) (as := [.int x3, .int (mAI M b2 (x2 : Int32).toNatClampNeg)]) (st := []) dX11_rowNode_45 (mlX11_655 rfl) rfl ho1.1 ⟨by rw [ho1.2]; rfl, by rw [ho1.2]; decide⟩ (by first | decide | (simp [Value.category]; done)) (Nat.le_refl _) H (fun r M4 HH hE => ?_)
    obtain ⟨hr, H⟩ := HH hE
    subst hr
    have ho1 := ok_E ho1 hE
    show T _ _ _ _ [] _ _
    refine xt_aload_n (j := 0) dX11_rowNode_48 rfl rfl ?_
    obtain ⟨b5, hb, H⟩ := H
    refine xt_getR dX11_rowNode_49 (flX11_132 rfl) ft_13_50 ho1.1 ho1.2 hb ?_
    refine xt_iload_n (j := 1) dX11_rowNode_52 rfl rfl ?_
    obtain ⟨ho6, H⟩ := H
    obtain ⟨hi, H⟩ := H
    refine xt_iald dX11_rowNode_53 ho6.1 ho6.2 hi ?_
    refine xt_istore_n (lv' := [(2, .int (mAI M4 b5 (x2 : Int32).toNatClampNeg)), (0, .ref x0), (3, .int x3)]) dX11_rowNode_54 rfl (by decide) rfl ?_
    refine xt_goto (tgt := 32) dX11_rowNode_55 (by decide) ?_
    exact xt_sub (lv' := [(0, .ref x0), (2, .int (mAI M4 b5 (x2 : Int32).toNatClampNeg)), (3, .int x3)]) [1, 0, 2] rfl H
def DX11_rowNode_0 (h : Nat) (x0 : Nat) (x1 : Int32) (M : Mem) (Q : Option Value → Mem → Prop) : Prop :=
  ok M x0 13 ∧ ∃ b2 : Nat, mR M x0 54 = some b2 ∧ ok M b2 21 ∧ vp_in x1 (mL M b2) ∧ ∃ b4 : Nat, mR M x0 50 = some b4 ∧ ok M b4 21 ∧ vp_in (mAI M b2 (x1 : Int32).toNatClampNeg) (mL M b4) ∧ (¬ (mAI M b4 (mAI M b2 (x1 : Int32).toNatClampNeg : Int32).toNatClampNeg) = (-1) → E h mdX11_node [.ref x0, .int 6, .int (-1)] M (fun r M6 => mE M M6 → ∃ r7 : Int32, r = some (.int r7) ∧ T (h + 1) mdX11_rowNode 32 [(0, .ref x0), (2, .int (mAI M b2 (x1 : Int32).toNatClampNeg)), (3, .int r7)] [] M6 Q)) ∧
  ((mAI M b4 (mAI M b2 (x1 : Int32).toNatClampNeg : Int32).toNatClampNeg) = (-1) → ∃ b8 : Nat, mR M x0 72 = some b8 ∧ ok M b8 21 ∧ vp_in (mAI M b2 (x1 : Int32).toNatClampNeg) (mL M b8) ∧ Q (some (.int (mAI M b8 (mAI M b2 (x1 : Int32).toNatClampNeg : Int32).toNatClampNeg))) M)
set_option maxRecDepth 20000 in
set_option maxHeartbeats 2000000 in
theorem VX11_rowNode_0 {h : Nat} {x0 : Nat} {x1 : Int32} {M : Mem} {Q : Option Value → Mem → Prop} (H : DX11_rowNode_0 h x0 x1 M Q) : T (h + 1) mdX11_rowNode 0 [(0, .ref x0), (1, .int x1)] [] M Q := by
  unfold DX11_rowNode_0 at H
  refine xt_aload_n (j := 0) dX11_rowNode_0 rfl rfl ?_
  obtain ⟨ho1, H⟩ := H
  obtain ⟨b2, hb, H⟩ := H
  refine xt_getR dX11_rowNode_1 (flX11_141 rfl) ft_13_54 ho1.1 ho1.2 hb ?_
  refine xt_iload_n (j := 1) dX11_rowNode_4 rfl rfl ?_
  obtain ⟨ho3, H⟩ := H
  obtain ⟨hi, H⟩ := H
  refine xt_iald dX11_rowNode_5 ho3.1 ho3.2 hi ?_
  refine xt_istore_n (lv' := [(2, .int (mAI M b2 (x1 : Int32).toNatClampNeg)), (0, .ref x0), (1, .int x1)]) dX11_rowNode_6 rfl (by decide) rfl ?_
  refine xt_aload_n (j := 1) dX11_rowNode_7 rfl rfl ?_
  obtain ⟨b4, hb, H⟩ := H
  refine xt_getR dX11_rowNode_8 (flX11_132 rfl) ft_13_50 ho1.1 ho1.2 hb ?_
  refine xt_iload_n (j := 0) dX11_rowNode_11 rfl rfl ?_
  obtain ⟨ho5, H⟩ := H
  obtain ⟨hi, H⟩ := H
  refine xt_iald dX11_rowNode_12 ho5.1 ho5.2 hi ?_
  refine xt_iconst (v := -1) dX11_rowNode_13 (by decide) ?_
  refine xt_icmp_ne (tgt := 24) dX11_rowNode_14 (by decide) (fun hc => ?_) (fun hc => ?_)
  · have H := H.1 hc
    refine xt_aload_n (j := 1) dX11_rowNode_24 rfl rfl ?_
    refine xt_bipush (v := 6) dX11_rowNode_25 (by decide) ?_
    refine xt_iconst (v := -1) dX11_rowNode_27 (by decide) ?_
    refine xt_callV (h2 := h) (as := [.int 6, .int (-1)]) (st := []) dX11_rowNode_28 (mlX11_651 rfl) rfl ho1.1 ⟨by rw [ho1.2]; rfl, by rw [ho1.2]; decide⟩ (by first | decide | (simp [Value.category]; done)) (Nat.le_refl _) H (fun r M6 HH hE => ?_)
    obtain ⟨r7, hr, H⟩ := HH hE
    subst hr
    have ho1 := ok_E ho1 hE
    show T _ _ _ _ [.int r7] _ _
    refine xt_istore_n (lv' := [(3, .int r7), (2, .int (mAI M b2 (x1 : Int32).toNatClampNeg)), (0, .ref x0), (1, .int x1)]) dX11_rowNode_31 rfl (by decide) rfl ?_
    exact xt_sub (lv' := [(0, .ref x0), (2, .int (mAI M b2 (x1 : Int32).toNatClampNeg)), (3, .int r7)]) [2, 1, 0] rfl H
  · have H := H.2 hc
    refine xt_aload_n (j := 1) dX11_rowNode_17 rfl rfl ?_
    obtain ⟨b8, hb, H⟩ := H
    refine xt_getR dX11_rowNode_18 (flX11_192 rfl) ft_13_72 ho1.1 ho1.2 hb ?_
    refine xt_iload_n (j := 0) dX11_rowNode_21 rfl rfl ?_
    obtain ⟨ho9, H⟩ := H
    obtain ⟨hi, H⟩ := H
    refine xt_iald dX11_rowNode_22 ho9.1 ho9.2 hi ?_
    exact xt_ireturn dX11_rowNode_23 rfl H
theorem KX11_rowNode {h : Nat} {x0 : Nat} {x1 : Int32} {M : Mem} {Q : Option Value → Mem → Prop} (H : DX11_rowNode_0 h x0 x1 M Q) : E (h + 1) mdX11_rowNode [.ref x0, .int x1] M Q := E.of (by decide) (Nat.le_of_ble_eq_true rfl) (fun _ _ _ => trivial) (VX11_rowNode_0 H)
def DX11_watch_50 (h : Nat) (s0 : Nat) (s1 : Int32) (s2 : Int32) (s3 : Nat) (s4 : Int32) (s5 : Int32) (s6 : Int32) (s7 : Int32) (M : Mem) (Q : Option Value → Mem → Prop) : Prop :=
  ok M s3 13 ∧ E h mdX11_over [.ref s3, .int s4, .int s5, .int s6, .int s7] M (fun r M2 => mE M M2 → ∃ r3 : Int32, r = some (.int r3) ∧ ok M2 s0 13 ∧ E h mdX11_over [.ref s0, .int s1, .int s2, .int r3, .int (-1)] M2 (fun r M5 => mE M2 M5 → ∃ r6 : Int32, r = some (.int r6) ∧ Q (some (.int r6)) M5))
set_option maxRecDepth 20000 in
set_option maxHeartbeats 2000000 in
theorem VX11_watch_50 {h : Nat} {s0 : Nat} {s1 : Int32} {s2 : Int32} {s3 : Nat} {s4 : Int32} {s5 : Int32} {s6 : Int32} {s7 : Int32} {M : Mem} {Q : Option Value → Mem → Prop} (H : DX11_watch_50 h s0 s1 s2 s3 s4 s5 s6 s7 M Q) : T (h + 1) mdX11_watch 50 [] [.int s7, .int s6, .int s5, .int s4, .ref s3, .int s2, .int s1, .ref s0] M Q := by
  unfold DX11_watch_50 at H
  obtain ⟨ho1, H⟩ := H
  refine xt_callV (h2 := h) (as := [.int s4, .int s5, .int s6, .int s7]) (st := [.int s2, .int s1, .ref s0]) dX11_watch_50 (mlX11_658 rfl) rfl ho1.1 ⟨by rw [ho1.2]; rfl, by rw [ho1.2]; decide⟩ (by first | decide | (simp [Value.category]; done)) (Nat.le_refl _) H (fun r M2 HH hE => ?_)
  obtain ⟨r3, hr, H⟩ := HH hE
  subst hr
  show T _ _ _ _ [.int r3, .int s2, .int s1, .ref s0] _ _
  refine xt_iconst (v := -1) dX11_watch_53 (by decide) ?_
  obtain ⟨ho4, H⟩ := H
  refine xt_callV (h2 := h) (as := [.int s1, .int s2, .int r3, .int (-1)]) (st := []) dX11_watch_54 (mlX11_658 rfl) rfl ho4.1 ⟨by rw [ho4.2]; rfl, by rw [ho4.2]; decide⟩ (by first | decide | (simp [Value.category]; done)) (Nat.le_refl _) H (fun r M5 HH hE => ?_)
  obtain ⟨r6, hr, H⟩ := HH hE
  subst hr
  show T _ _ _ _ [.int r6] _ _
  exact xt_ireturn dX11_watch_57 rfl H
def DX11_watch_40 (h : Nat) (x2 : Int32) (x3 : Int32) (x4 : Int32) (s0 : Nat) (s1 : Int32) (s2 : Int32) (s3 : Nat) (s4 : Int32) (s5 : Int32) (s6 : Int32) (M : Mem) (Q : Option Value → Mem → Prop) : Prop :=
  (x2 = 0 → DX11_watch_50 h s0 s1 s2 s3 s4 s5 s6 x4 M Q) ∧
  (¬ (x2 = 0) → DX11_watch_50 h s0 s1 s2 s3 s4 s5 s6 x3 M Q)
set_option maxRecDepth 20000 in
set_option maxHeartbeats 2000000 in
theorem VX11_watch_40 {h : Nat} {x2 : Int32} {x3 : Int32} {x4 : Int32} {s0 : Nat} {s1 : Int32} {s2 : Int32} {s3 : Nat} {s4 : Int32} {s5 : Int32} {s6 : Int32} {M : Mem} {Q : Option Value → Mem → Prop} (H : DX11_watch_40 h x2 x3 x4 s0 s1 s2 s3 s4 s5 s6 M Q) : T (h + 1) mdX11_watch 40 [(2, .int x2), (3, .int x3), (4, .int x4)] [.int s6, .int s5, .int s4, .ref s3, .int s2, .int s1, .ref s0] M Q := by
  unfold DX11_watch_40 at H
  refine xt_iload_n (j := 0) dX11_watch_40 rfl rfl ?_
  refine xt_if_eq (tgt := 48) dX11_watch_41 (by decide) (fun hc => ?_) (fun hc => ?_)
  · have H := H.1 hc
    refine xt_iload (j := 2) dX11_watch_48 rfl ?_
    exact xt_sub [] rfl (VX11_watch_50 H)
  · have H := H.2 hc
    refine xt_iload_n (j := 1) dX11_watch_44 rfl rfl ?_
    refine xt_goto (tgt := 50) dX11_watch_45 (by decide) ?_
    exact xt_sub [] rfl (VX11_watch_50 H)
def DX11_watch_0 (h : Nat) (x0 : Nat) (x1 : Int32) (x2 : Int32) (M : Mem) (Q : Option Value → Mem → Prop) : Prop :=
  ok M x0 13 ∧ E h mdX11_node [.ref x0, .int 2, .int (-1)] M (fun r M2 => mE M M2 → ∃ r3 : Int32, r = some (.int r3) ∧ E h mdX11_node [.ref x0, .int 3, .int (-1)] M2 (fun r M4 => mE M2 M4 → ∃ r5 : Int32, r = some (.int r5) ∧ E h mdX11_over [.ref x0, .int 4, .int x1, .int r5, .int (-1)] M4 (fun r M6 => mE M4 M6 → ∃ r7 : Int32, r = some (.int r7) ∧ (x2 = 0 → DX11_watch_40 h x2 r3 r7 x0 7 (-1) x0 6 (-1) r3 M6 Q) ∧
  (¬ (x2 = 0) → DX11_watch_40 h x2 r3 r7 x0 7 (-1) x0 6 (-1) r7 M6 Q))))
set_option maxRecDepth 20000 in
set_option maxHeartbeats 2000000 in
theorem VX11_watch_0 {h : Nat} {x0 : Nat} {x1 : Int32} {x2 : Int32} {M : Mem} {Q : Option Value → Mem → Prop} (H : DX11_watch_0 h x0 x1 x2 M Q) : T (h + 1) mdX11_watch 0 [(0, .ref x0), (1, .int x1), (2, .int x2)] [] M Q := by
  unfold DX11_watch_0 at H
  refine xt_aload_n (j := 0) dX11_watch_0 rfl rfl ?_
  refine xt_iconst (v := 2) dX11_watch_1 (by decide) ?_
  refine xt_iconst (v := -1) dX11_watch_2 (by decide) ?_
  obtain ⟨ho1, H⟩ := H
  refine xt_callV (h2 := h) (as := [.int 2, .int (-1)]) (st := []) dX11_watch_3 (mlX11_651 rfl) rfl ho1.1 ⟨by rw [ho1.2]; rfl, by rw [ho1.2]; decide⟩ (by first | decide | (simp [Value.category]; done)) (Nat.le_refl _) H (fun r M2 HH hE => ?_)
  obtain ⟨r3, hr, H⟩ := HH hE
  subst hr
  have ho1 := ok_E ho1 hE
  show T _ _ _ _ [.int r3] _ _
  refine xt_istore_n (lv' := [(3, .int r3), (0, .ref x0), (1, .int x1), (2, .int x2)]) dX11_watch_6 rfl (by decide) rfl ?_
  refine xt_aload_n (j := 1) dX11_watch_7 rfl rfl ?_
  refine xt_iconst (v := 4) dX11_watch_8 (by decide) ?_
  refine xt_iload_n (j := 2) dX11_watch_9 rfl rfl ?_
  refine xt_aload_n (j := 1) dX11_watch_10 rfl rfl ?_
  refine xt_iconst (v := 3) dX11_watch_11 (by decide) ?_
  refine xt_iconst (v := -1) dX11_watch_12 (by decide) ?_
  refine xt_callV (h2 := h) (as := [.int 3, .int (-1)]) (st := [.int x1, .int 4, .ref x0]) dX11_watch_13 (mlX11_651 rfl) rfl ho1.1 ⟨by rw [ho1.2]; rfl, by rw [ho1.2]; decide⟩ (by first | decide | (simp [Value.category]; done)) (Nat.le_refl _) H (fun r M4 HH hE => ?_)
  obtain ⟨r5, hr, H⟩ := HH hE
  subst hr
  have ho1 := ok_E ho1 hE
  show T _ _ _ _ [.int r5, .int x1, .int 4, .ref x0] _ _
  refine xt_iconst (v := -1) dX11_watch_16 (by decide) ?_
  refine xt_callV (h2 := h) (as := [.int 4, .int x1, .int r5, .int (-1)]) (st := []) dX11_watch_17 (mlX11_658 rfl) rfl ho1.1 ⟨by rw [ho1.2]; rfl, by rw [ho1.2]; decide⟩ (by first | decide | (simp [Value.category]; done)) (Nat.le_refl _) H (fun r M6 HH hE => ?_)
  obtain ⟨r7, hr, H⟩ := HH hE
  subst hr
  have ho1 := ok_E ho1 hE
  show T _ _ _ _ [.int r7] _ _
  refine xt_istore (lv' := [(4, .int r7), (3, .int r3), (0, .ref x0), (1, .int x1), (2, .int x2)]) dX11_watch_20 (by decide) rfl ?_
  refine xt_aload_n (j := 2) dX11_watch_22 rfl rfl ?_
  refine xt_bipush (v := 7) dX11_watch_23 (by decide) ?_
  refine xt_iconst (v := -1) dX11_watch_25 (by decide) ?_
  refine xt_aload_n (j := 2) dX11_watch_26 rfl rfl ?_
  refine xt_bipush (v := 6) dX11_watch_27 (by decide) ?_
  refine xt_iconst (v := -1) dX11_watch_29 (by decide) ?_
  refine xt_iload_n (j := 4) dX11_watch_30 rfl rfl ?_
  refine xt_if_eq (tgt := 39) dX11_watch_31 (by decide) (fun hc => ?_) (fun hc => ?_)
  · have H := H.1 hc
    refine xt_iload_n (j := 1) dX11_watch_39 rfl rfl ?_
    exact xt_sub [4, 1, 0] rfl (VX11_watch_40 H)
  · have H := H.2 hc
    refine xt_iload (j := 0) dX11_watch_34 rfl ?_
    refine xt_goto (tgt := 40) dX11_watch_36 (by decide) ?_
    exact xt_sub [4, 1, 0] rfl (VX11_watch_40 H)
theorem KX11_watch {h : Nat} {x0 : Nat} {x1 : Int32} {x2 : Int32} {M : Mem} {Q : Option Value → Mem → Prop} (H : DX11_watch_0 h x0 x1 x2 M Q) : E (h + 1) mdX11_watch [.ref x0, .int x1, .int x2] M Q := E.of (by decide) (Nat.le_of_ble_eq_true rfl) (fun _ _ _ => trivial) (VX11_watch_0 H)
def DX11_awaiting_0 (h : Nat) (x0 : Nat) (x1 : Int32) (x2 : Int32) (M : Mem) (Q : Option Value → Mem → Prop) : Prop :=
  ok M x0 13 ∧ E h mdX11_watch [.ref x0, .int x1, .int x2] M (fun r M2 => mE M M2 → ∃ r3 : Int32, r = some (.int r3) ∧ E h mdX11_over [.ref x0, .int 10, .int (-1), .int r3, .int (-1)] M2 (fun r M4 => mE M2 M4 → ∃ r5 : Int32, r = some (.int r5) ∧ Q (some (.int r5)) M4))
set_option maxRecDepth 20000 in
set_option maxHeartbeats 2000000 in
theorem VX11_awaiting_0 {h : Nat} {x0 : Nat} {x1 : Int32} {x2 : Int32} {M : Mem} {Q : Option Value → Mem → Prop} (H : DX11_awaiting_0 h x0 x1 x2 M Q) : T (h + 1) mdX11_awaiting 0 [(0, .ref x0), (1, .int x1), (2, .int x2)] [] M Q := by
  unfold DX11_awaiting_0 at H
  refine xt_aload_n (j := 0) dX11_awaiting_0 rfl rfl ?_
  refine xt_bipush (v := 10) dX11_awaiting_1 (by decide) ?_
  refine xt_iconst (v := -1) dX11_awaiting_3 (by decide) ?_
  refine xt_aload_n (j := 0) dX11_awaiting_4 rfl rfl ?_
  refine xt_iload_n (j := 1) dX11_awaiting_5 rfl rfl ?_
  refine xt_iload_n (j := 2) dX11_awaiting_6 rfl rfl ?_
  obtain ⟨ho1, H⟩ := H
  refine xt_callV (h2 := h) (as := [.int x1, .int x2]) (st := [.int (-1), .int 10, .ref x0]) dX11_awaiting_7 (mlX11_662 rfl) rfl ho1.1 ⟨by rw [ho1.2]; rfl, by rw [ho1.2]; decide⟩ (by first | decide | (simp [Value.category]; done)) (Nat.le_refl _) H (fun r M2 HH hE => ?_)
  obtain ⟨r3, hr, H⟩ := HH hE
  subst hr
  have ho1 := ok_E ho1 hE
  show T _ _ _ _ [.int r3, .int (-1), .int 10, .ref x0] _ _
  refine xt_iconst (v := -1) dX11_awaiting_10 (by decide) ?_
  refine xt_callV (h2 := h) (as := [.int 10, .int (-1), .int r3, .int (-1)]) (st := []) dX11_awaiting_11 (mlX11_658 rfl) rfl ho1.1 ⟨by rw [ho1.2]; rfl, by rw [ho1.2]; decide⟩ (by first | decide | (simp [Value.category]; done)) (Nat.le_refl _) H (fun r M4 HH hE => ?_)
  obtain ⟨r5, hr, H⟩ := HH hE
  subst hr
  have ho1 := ok_E ho1 hE
  show T _ _ _ _ [.int r5] _ _
  exact xt_ireturn dX11_awaiting_14 rfl H
theorem KX11_awaiting {h : Nat} {x0 : Nat} {x1 : Int32} {x2 : Int32} {M : Mem} {Q : Option Value → Mem → Prop} (H : DX11_awaiting_0 h x0 x1 x2 M Q) : E (h + 1) mdX11_awaiting [.ref x0, .int x1, .int x2] M Q := E.of (by decide) (Nat.le_of_ble_eq_true rfl) (fun _ _ _ => trivial) (VX11_awaiting_0 H)
def DX11_aborting_62 (h : Nat) (s0 : Nat) (s1 : Int32) (s2 : Int32) (s3 : Nat) (s4 : Int32) (s5 : Int32) (s6 : Int32) (s7 : Nat) (s8 : Int32) (s9 : Int32) (M : Mem) (Q : Option Value → Mem → Prop) : Prop :=
  ok M s7 13 ∧ E h mdX11_watch [.ref s7, .int s8, .int s9] M (fun r M2 => mE M M2 → ∃ r3 : Int32, r = some (.int r3) ∧ ok M2 s3 13 ∧ E h mdX11_over [.ref s3, .int s4, .int s5, .int s6, .int r3] M2 (fun r M5 => mE M2 M5 → ∃ r6 : Int32, r = some (.int r6) ∧ ok M5 s0 13 ∧ E h mdX11_over [.ref s0, .int s1, .int s2, .int r6, .int (-1)] M5 (fun r M8 => mE M5 M8 → ∃ r9 : Int32, r = some (.int r9) ∧ Q (some (.int r9)) M8)))
set_option maxRecDepth 20000 in
set_option maxHeartbeats 2000000 in
theorem VX11_aborting_62 {h : Nat} {s0 : Nat} {s1 : Int32} {s2 : Int32} {s3 : Nat} {s4 : Int32} {s5 : Int32} {s6 : Int32} {s7 : Nat} {s8 : Int32} {s9 : Int32} {M : Mem} {Q : Option Value → Mem → Prop} (H : DX11_aborting_62 h s0 s1 s2 s3 s4 s5 s6 s7 s8 s9 M Q) : T (h + 1) mdX11_aborting 62 [] [.int s9, .int s8, .ref s7, .int s6, .int s5, .int s4, .ref s3, .int s2, .int s1, .ref s0] M Q := by
  unfold DX11_aborting_62 at H
  obtain ⟨ho1, H⟩ := H
  refine xt_callV (h2 := h) (as := [.int s8, .int s9]) (st := [.int s6, .int s5, .int s4, .ref s3, .int s2, .int s1, .ref s0]) dX11_aborting_62 (mlX11_662 rfl) rfl ho1.1 ⟨by rw [ho1.2]; rfl, by rw [ho1.2]; decide⟩ (by first | decide | (simp [Value.category]; done)) (Nat.le_refl _) H (fun r M2 HH hE => ?_)
  obtain ⟨r3, hr, H⟩ := HH hE
  subst hr
  show T _ _ _ _ [.int r3, .int s6, .int s5, .int s4, .ref s3, .int s2, .int s1, .ref s0] _ _
  obtain ⟨ho4, H⟩ := H
  refine xt_callV (h2 := h) (as := [.int s4, .int s5, .int s6, .int r3]) (st := [.int s2, .int s1, .ref s0]) dX11_aborting_65 (mlX11_658 rfl) rfl ho4.1 ⟨by rw [ho4.2]; rfl, by rw [ho4.2]; decide⟩ (by first | decide | (simp [Value.category]; done)) (Nat.le_refl _) H (fun r M5 HH hE => ?_)
  obtain ⟨r6, hr, H⟩ := HH hE
  subst hr
  show T _ _ _ _ [.int r6, .int s2, .int s1, .ref s0] _ _
  refine xt_iconst (v := -1) dX11_aborting_68 (by decide) ?_
  obtain ⟨ho7, H⟩ := H
  refine xt_callV (h2 := h) (as := [.int s1, .int s2, .int r6, .int (-1)]) (st := []) dX11_aborting_69 (mlX11_658 rfl) rfl ho7.1 ⟨by rw [ho7.2]; rfl, by rw [ho7.2]; decide⟩ (by first | decide | (simp [Value.category]; done)) (Nat.le_refl _) H (fun r M8 HH hE => ?_)
  obtain ⟨r9, hr, H⟩ := HH hE
  subst hr
  show T _ _ _ _ [.int r9] _ _
  exact xt_ireturn dX11_aborting_72 rfl H
def DX11_aborting_61 (h : Nat) (s0 : Nat) (s1 : Int32) (s2 : Int32) (s3 : Nat) (s4 : Int32) (s5 : Int32) (s6 : Int32) (s7 : Nat) (s8 : Int32) (M : Mem) (Q : Option Value → Mem → Prop) : Prop :=
  DX11_aborting_62 h s0 s1 s2 s3 s4 s5 s6 s7 s8 0 M Q
set_option maxRecDepth 20000 in
set_option maxHeartbeats 2000000 in
theorem VX11_aborting_61 {h : Nat} {s0 : Nat} {s1 : Int32} {s2 : Int32} {s3 : Nat} {s4 : Int32} {s5 : Int32} {s6 : Int32} {s7 : Nat} {s8 : Int32} {M : Mem} {Q : Option Value → Mem → Prop} (H : DX11_aborting_61 h s0 s1 s2 s3 s4 s5 s6 s7 s8 M Q) : T (h + 1) mdX11_aborting 61 [] [.int s8, .ref s7, .int s6, .int s5, .int s4, .ref s3, .int s2, .int s1, .ref s0] M Q := by
  unfold DX11_aborting_61 at H
  refine xt_iconst (v := 0) dX11_aborting_61 (by decide) ?_
  exact xt_sub [] rfl (VX11_aborting_62 H)
def DX11_aborting_17 (h : Nat) (x0 : Nat) (x1 : Int32) (x3 : Int32) (x4 : Int32) (s0 : Int32) (M : Mem) (Q : Option Value → Mem → Prop) : Prop :=
  ok M x0 13 ∧ E h mdX11_node [.ref x0, .int 3, .int (-1)] M (fun r M2 => mE M M2 → ∃ r3 : Int32, r = some (.int r3) ∧ E h mdX11_over [.ref x0, .int 6, .int (-1), .int s0, .int r3] M2 (fun r M4 => mE M2 M4 → ∃ r5 : Int32, r = some (.int r5) ∧ (x3 = 0 → DX11_aborting_61 h x0 10 (-1) x0 9 (-1) r5 x0 x1 M4 Q) ∧
  (¬ (x3 = 0) → (x4 = 0 → DX11_aborting_61 h x0 10 (-1) x0 9 (-1) r5 x0 x1 M4 Q) ∧
  (¬ (x4 = 0) → DX11_aborting_62 h x0 10 (-1) x0 9 (-1) r5 x0 x1 1 M4 Q))))
set_option maxRecDepth 20000 in
set_option maxHeartbeats 2000000 in
theorem VX11_aborting_17 {h : Nat} {x0 : Nat} {x1 : Int32} {x3 : Int32} {x4 : Int32} {s0 : Int32} {M : Mem} {Q : Option Value → Mem → Prop} (H : DX11_aborting_17 h x0 x1 x3 x4 s0 M Q) : T (h + 1) mdX11_aborting 17 [(0, .ref x0), (1, .int x1), (3, .int x3), (4, .int x4)] [.int s0] M Q := by
  unfold DX11_aborting_17 at H
  refine xt_istore (lv' := [(5, .int s0), (0, .ref x0), (1, .int x1), (3, .int x3), (4, .int x4)]) dX11_aborting_17 (by decide) rfl ?_
  refine xt_aload_n (j := 1) dX11_aborting_19 rfl rfl ?_
  refine xt_bipush (v := 6) dX11_aborting_20 (by decide) ?_
  refine xt_iconst (v := -1) dX11_aborting_22 (by decide) ?_
  refine xt_iload (j := 0) dX11_aborting_23 rfl ?_
  refine xt_aload_n (j := 1) dX11_aborting_25 rfl rfl ?_
  refine xt_iconst (v := 3) dX11_aborting_26 (by decide) ?_
  refine xt_iconst (v := -1) dX11_aborting_27 (by decide) ?_
  obtain ⟨ho1, H⟩ := H
  refine xt_callV (h2 := h) (as := [.int 3, .int (-1)]) (st := [.int s0, .int (-1), .int 6, .ref x0]) dX11_aborting_28 (mlX11_651 rfl) rfl ho1.1 ⟨by rw [ho1.2]; rfl, by rw [ho1.2]; decide⟩ (by first | decide | (simp [Value.category]; done)) (Nat.le_refl _) H (fun r M2 HH hE => ?_)
  obtain ⟨r3, hr, H⟩ := HH hE
  subst hr
  have ho1 := ok_E ho1 hE
  show T _ _ _ _ [.int r3, .int s0, .int (-1), .int 6, .ref x0] _ _
  refine xt_callV (h2 := h) (as := [.int 6, .int (-1), .int s0, .int r3]) (st := []) dX11_aborting_31 (mlX11_658 rfl) rfl ho1.1 ⟨by rw [ho1.2]; rfl, by rw [ho1.2]; decide⟩ (by first | decide | (simp [Value.category]; done)) (Nat.le_refl _) H (fun r M4 HH hE => ?_)
  obtain ⟨r5, hr, H⟩ := HH hE
  subst hr
  have ho1 := ok_E ho1 hE
  show T _ _ _ _ [.int r5] _ _
  refine xt_istore (lv' := [(6, .int r5), (5, .int s0), (0, .ref x0), (1, .int x1), (3, .int x3), (4, .int x4)]) dX11_aborting_34 (by decide) rfl ?_
  refine xt_aload_n (j := 2) dX11_aborting_36 rfl rfl ?_
  refine xt_bipush (v := 10) dX11_aborting_37 (by decide) ?_
  refine xt_iconst (v := -1) dX11_aborting_39 (by decide) ?_
  refine xt_aload_n (j := 2) dX11_aborting_40 rfl rfl ?_
  refine xt_bipush (v := 9) dX11_aborting_41 (by decide) ?_
  refine xt_iconst (v := -1) dX11_aborting_43 (by decide) ?_
  refine xt_iload (j := 0) dX11_aborting_44 rfl ?_
  refine xt_aload_n (j := 2) dX11_aborting_46 rfl rfl ?_
  refine xt_iload_n (j := 3) dX11_aborting_47 rfl rfl ?_
  refine xt_iload_n (j := 4) dX11_aborting_48 rfl rfl ?_
  refine xt_if_eq (tgt := 61) dX11_aborting_49 (by decide) (fun hc => ?_) (fun hc => ?_)
  · have H := H.1 hc
    exact xt_sub [] rfl (VX11_aborting_61 H)
  · have H := H.2 hc
    refine xt_iload (j := 5) dX11_aborting_52 rfl ?_
    refine xt_if_eq (tgt := 61) dX11_aborting_54 (by decide) (fun hc => ?_) (fun hc => ?_)
    · have H := H.1 hc
      exact xt_sub [] rfl (VX11_aborting_61 H)
    · have H := H.2 hc
      refine xt_iconst (v := 1) dX11_aborting_57 (by decide) ?_
      refine xt_goto (tgt := 62) dX11_aborting_58 (by decide) ?_
      exact xt_sub [] rfl (VX11_aborting_62 H)
def DX11_aborting_0 (h : Nat) (x0 : Nat) (x1 : Int32) (x2 : Int32) (x3 : Int32) (x4 : Int32) (M : Mem) (Q : Option Value → Mem → Prop) : Prop :=
  (x3 = 0 → ok M x0 13 ∧ E h mdX11_over [.ref x0, .int 8, .int x1, .int x2, .int (-1)] M (fun r M2 => mE M M2 → ∃ r3 : Int32, r = some (.int r3) ∧ DX11_aborting_17 h x0 x1 x3 x4 r3 M2 Q)) ∧
  (¬ (x3 = 0) → DX11_aborting_17 h x0 x1 x3 x4 x2 M Q)
set_option maxRecDepth 20000 in
set_option maxHeartbeats 2000000 in
theorem VX11_aborting_0 {h : Nat} {x0 : Nat} {x1 : Int32} {x2 : Int32} {x3 : Int32} {x4 : Int32} {M : Mem} {Q : Option Value → Mem → Prop} (H : DX11_aborting_0 h x0 x1 x2 x3 x4 M Q) : T (h + 1) mdX11_aborting 0 [(0, .ref x0), (1, .int x1), (2, .int x2), (3, .int x3), (4, .int x4)] [] M Q := by
  unfold DX11_aborting_0 at H
  refine xt_iload_n (j := 3) dX11_aborting_0 rfl rfl ?_
  refine xt_if_eq (tgt := 8) dX11_aborting_1 (by decide) (fun hc => ?_) (fun hc => ?_)
  · have H := H.1 hc
    refine xt_aload_n (j := 0) dX11_aborting_8 rfl rfl ?_
    refine xt_bipush (v := 8) dX11_aborting_9 (by decide) ?_
    refine xt_iload_n (j := 1) dX11_aborting_11 rfl rfl ?_
    refine xt_iload_n (j := 2) dX11_aborting_12 rfl rfl ?_
    refine xt_iconst (v := -1) dX11_aborting_13 (by decide) ?_
    obtain ⟨ho1, H⟩ := H
    refine xt_callV (h2 := h) (as := [.int 8, .int x1, .int x2, .int (-1)]) (st := []) dX11_aborting_14 (mlX11_658 rfl) rfl ho1.1 ⟨by rw [ho1.2]; rfl, by rw [ho1.2]; decide⟩ (by first | decide | (simp [Value.category]; done)) (Nat.le_refl _) H (fun r M2 HH hE => ?_)
    obtain ⟨r3, hr, H⟩ := HH hE
    subst hr
    have ho1 := ok_E ho1 hE
    show T _ _ _ _ [.int r3] _ _
    exact xt_sub [0, 1, 3, 4] rfl (VX11_aborting_17 H)
  · have H := H.2 hc
    refine xt_iload_n (j := 2) dX11_aborting_4 rfl rfl ?_
    refine xt_goto (tgt := 17) dX11_aborting_5 (by decide) ?_
    exact xt_sub [0, 1, 3, 4] rfl (VX11_aborting_17 H)
theorem KX11_aborting {h : Nat} {x0 : Nat} {x1 : Int32} {x2 : Int32} {x3 : Int32} {x4 : Int32} {M : Mem} {Q : Option Value → Mem → Prop} (H : DX11_aborting_0 h x0 x1 x2 x3 x4 M Q) : E (h + 1) mdX11_aborting [.ref x0, .int x1, .int x2, .int x3, .int x4] M Q := E.of (by decide) (Nat.le_of_ble_eq_true rfl) (fun _ _ _ => trivial) (VX11_aborting_0 H)
def DX11_halting_0 (h : Nat) (x0 : Nat) (M : Mem) (Q : Option Value → Mem → Prop) : Prop :=
  ok M x0 13 ∧ E h mdX11_node [.ref x0, .int 2, .int (-1)] M (fun r M2 => mE M M2 → ∃ r3 : Int32, r = some (.int r3) ∧ E h mdX11_over [.ref x0, .int 7, .int (-1), .int r3, .int (-1)] M2 (fun r M4 => mE M2 M4 → ∃ r5 : Int32, r = some (.int r5) ∧ Q (some (.int r5)) M4))
set_option maxRecDepth 20000 in
set_option maxHeartbeats 2000000 in
theorem VX11_halting_0 {h : Nat} {x0 : Nat} {M : Mem} {Q : Option Value → Mem → Prop} (H : DX11_halting_0 h x0 M Q) : T (h + 1) mdX11_halting 0 [(0, .ref x0)] [] M Q := by
  unfold DX11_halting_0 at H
  refine xt_aload_n (j := 0) dX11_halting_0 rfl rfl ?_
  refine xt_bipush (v := 7) dX11_halting_1 (by decide) ?_
  refine xt_iconst (v := -1) dX11_halting_3 (by decide) ?_
  refine xt_aload_n (j := 0) dX11_halting_4 rfl rfl ?_
  refine xt_iconst (v := 2) dX11_halting_5 (by decide) ?_
  refine xt_iconst (v := -1) dX11_halting_6 (by decide) ?_
  obtain ⟨ho1, H⟩ := H
  refine xt_callV (h2 := h) (as := [.int 2, .int (-1)]) (st := [.int (-1), .int 7, .ref x0]) dX11_halting_7 (mlX11_651 rfl) rfl ho1.1 ⟨by rw [ho1.2]; rfl, by rw [ho1.2]; decide⟩ (by first | decide | (simp [Value.category]; done)) (Nat.le_refl _) H (fun r M2 HH hE => ?_)
  obtain ⟨r3, hr, H⟩ := HH hE
  subst hr
  have ho1 := ok_E ho1 hE
  show T _ _ _ _ [.int r3, .int (-1), .int 7, .ref x0] _ _
  refine xt_iconst (v := -1) dX11_halting_10 (by decide) ?_
  refine xt_callV (h2 := h) (as := [.int 7, .int (-1), .int r3, .int (-1)]) (st := []) dX11_halting_11 (mlX11_658 rfl) rfl ho1.1 ⟨by rw [ho1.2]; rfl, by rw [ho1.2]; decide⟩ (by first | decide | (simp [Value.category]; done)) (Nat.le_refl _) H (fun r M4 HH hE => ?_)
  obtain ⟨r5, hr, H⟩ := HH hE
  subst hr
  have ho1 := ok_E ho1 hE
  show T _ _ _ _ [.int r5] _ _
  exact xt_ireturn dX11_halting_14 rfl H
theorem KX11_halting {h : Nat} {x0 : Nat} {M : Mem} {Q : Option Value → Mem → Prop} (H : DX11_halting_0 h x0 M Q) : E (h + 1) mdX11_halting [.ref x0] M Q := E.of (by decide) (Nat.le_of_ble_eq_true rfl) (fun _ _ _ => trivial) (VX11_halting_0 H)
def DX11_nodeOf_217 (h : Nat) (x1 : Int32) (x2 : Int32) (x3 : Int32) (s0 : Nat) (s1 : Int32) (M : Mem) (Q : Option Value → Mem → Prop) : Prop :=
  ok M s0 13 ∧ E h mdX11_over [.ref s0, .int s1, .int x1, .int x2, .int x3] M (fun r M2 => mE M M2 → ∃ r3 : Int32, r = some (.int r3) ∧ Q (some (.int r3)) M2)
set_option maxRecDepth 20000 in
set_option maxHeartbeats 2000000 in
theorem VX11_nodeOf_217 {h : Nat} {x1 : Int32} {x2 : Int32} {x3 : Int32} {s0 : Nat} {s1 : Int32} {M : Mem} {Q : Option Value → Mem → Prop} (H : DX11_nodeOf_217 h x1 x2 x3 s0 s1 M Q) : T (h + 1) mdX11_nodeOf 217 [(1, .int x1), (2, .int x2), (3, .int x3)] [.int s1, .ref s0] M Q := by
  unfold DX11_nodeOf_217 at H
  refine xt_iload_n (j := 0) dX11_nodeOf_217 rfl rfl ?_
  refine xt_iload_n (j := 1) dX11_nodeOf_218 rfl rfl ?_
  refine xt_iload_n (j := 2) dX11_nodeOf_219 rfl rfl ?_
  obtain ⟨ho1, H⟩ := H
  refine xt_callV (h2 := h) (as := [.int s1, .int x1, .int x2, .int x3]) (st := []) dX11_nodeOf_220 (mlX11_658 rfl) rfl ho1.1 ⟨by rw [ho1.2]; rfl, by rw [ho1.2]; decide⟩ (by first | decide | (simp [Value.category]; done)) (Nat.le_refl _) H (fun r M2 HH hE => ?_)
  obtain ⟨r3, hr, H⟩ := HH hE
  subst hr
  show T _ _ _ _ [.int r3] _ _
  exact xt_ireturn dX11_nodeOf_223 rfl H
def DX11_nodeOf_199 (h : Nat) (x0 : Nat) (x1 : Int32) (x2 : Int32) (s0 : Int32) (M : Mem) (Q : Option Value → Mem → Prop) : Prop :=
  ok M x0 13 ∧ ∃ b2 : Nat, mR M x0 38 = some b2 ∧ ok M b2 21 ∧ vp_in x1 (mL M b2) ∧ (¬ (mAI M b2 (x1 : Int32).toNatClampNeg) = 14 → DX11_nodeOf_217 h x1 x2 s0 x0 4 M Q) ∧
  ((mAI M b2 (x1 : Int32).toNatClampNeg) = 14 → DX11_nodeOf_217 h x1 x2 s0 x0 5 M Q)
set_option maxRecDepth 20000 in
set_option maxHeartbeats 2000000 in
theorem VX11_nodeOf_199 {h : Nat} {x0 : Nat} {x1 : Int32} {x2 : Int32} {s0 : Int32} {M : Mem} {Q : Option Value → Mem → Prop} (H : DX11_nodeOf_199 h x0 x1 x2 s0 M Q) : T (h + 1) mdX11_nodeOf 199 [(0, .ref x0), (1, .int x1), (2, .int x2)] [.int s0] M Q := by
  unfold DX11_nodeOf_199 at H
  refine xt_istore_n (lv' := [(3, .int s0), (0, .ref x0), (1, .int x1), (2, .int x2)]) dX11_nodeOf_199 rfl (by decide) rfl ?_
  refine xt_aload_n (j := 1) dX11_nodeOf_200 rfl rfl ?_
  refine xt_aload_n (j := 1) dX11_nodeOf_201 rfl rfl ?_
  obtain ⟨ho1, H⟩ := H
  obtain ⟨b2, hb, H⟩ := H
  refine xt_getR dX11_nodeOf_202 (flX11_96 rfl) ft_13_38 ho1.1 ho1.2 hb ?_
  refine xt_iload_n (j := 2) dX11_nodeOf_205 rfl rfl ?_
  obtain ⟨ho3, H⟩ := H
  obtain ⟨hi, H⟩ := H
  refine xt_iald dX11_nodeOf_206 ho3.1 ho3.2 hi ?_
  refine xt_bipush (v := 14) dX11_nodeOf_207 (by decide) ?_
  refine xt_icmp_ne (tgt := 216) dX11_nodeOf_209 (by decide) (fun hc => ?_) (fun hc => ?_)
  · have H := H.1 hc
    refine xt_iconst (v := 4) dX11_nodeOf_216 (by decide) ?_
    exact xt_sub [2, 3, 0] rfl (VX11_nodeOf_217 H)
  · have H := H.2 hc
    refine xt_iconst (v := 5) dX11_nodeOf_212 (by decide) ?_
    refine xt_goto (tgt := 217) dX11_nodeOf_213 (by decide) ?_
    exact xt_sub [2, 3, 0] rfl (VX11_nodeOf_217 H)
def DX11_nodeOf_271 (h : Nat) (s0 : Int32) (M : Mem) (Q : Option Value → Mem → Prop) : Prop :=
  Q (some (.int s0)) M
set_option maxRecDepth 20000 in
set_option maxHeartbeats 2000000 in
theorem VX11_nodeOf_271 {h : Nat} {s0 : Int32} {M : Mem} {Q : Option Value → Mem → Prop} (H : DX11_nodeOf_271 h s0 M Q) : T (h + 1) mdX11_nodeOf 271 [] [.int s0] M Q := by
  unfold DX11_nodeOf_271 at H
  exact xt_ireturn dX11_nodeOf_271 rfl H
def DX11_nodeOf_343 (h : Nat) (x0 : Nat) (x3 : Int32) (x4 : Int32) (M : Mem) (Q : Option Value → Mem → Prop) : Prop :=
  (x4 = (-1) → Q (some (.int x3)) M) ∧
  (¬ (x4 = (-1)) → ok M x0 13 ∧ E h mdX11_rowNode [.ref x0, .int x4] M (fun r M2 => mE M M2 → ∃ r3 : Int32, r = some (.int r3) ∧ E h mdX11_adopt [.ref x0, .int x3, .int r3] M2 (fun r M4 => mE M2 M4 → r = none ∧ ∃ b5 : Nat, mR M4 x0 56 = some b5 ∧ ok M4 b5 21 ∧ vp_in x4 (mL M4 b5) ∧ T (h + 1) mdX11_nodeOf 343 [(0, .ref x0), (3, .int x3), (4, .int (mAI M4 b5 (x4 : Int32).toNatClampNeg))] [] M4 Q)))
set_option maxRecDepth 20000 in
set_option maxHeartbeats 2000000 in
theorem VX11_nodeOf_343 {h : Nat} {x0 : Nat} {x3 : Int32} {x4 : Int32} {M : Mem} {Q : Option Value → Mem → Prop} (H : DX11_nodeOf_343 h x0 x3 x4 M Q) : T (h + 1) mdX11_nodeOf 343 [(0, .ref x0), (3, .int x3), (4, .int x4)] [] M Q := by
  unfold DX11_nodeOf_343 at H
  refine xt_iload (j := 2) dX11_nodeOf_343 rfl ?_
  refine xt_iconst (v := -1) dX11_nodeOf_345 (by decide) ?_
  refine xt_icmp_eq (tgt := 372) dX11_nodeOf_346 (by decide) (fun hc => ?_) (fun hc => ?_)
  · have H := H.1 hc
    refine xt_iload_n (j := 1) dX11_nodeOf_372 rfl rfl ?_
    exact xt_ireturn dX11_nodeOf_373 rfl H
  · have H := H.2 hc
    refine xt_aload_n (j := 0) dX11_nodeOf_349 rfl rfl ?_
    refine xt_iload_n (j := 1) dX11_nodeOf_350 rfl rfl ?_
    refine xt_aload_n (j := 0) dX11_nodeOf_351 rfl rfl ?_
    refine xt_iload (j := 2) dX11_nodeOf_352 rfl ?_
    obtain ⟨ho1, H⟩ := H
    refine xt_callV (h2 := h) (as := [.int x4]) (st := [.int x3, .ref x0]) dX11_nodeOf_354 (mlX11_676 rfl) rfl ho1.1 ⟨by rw [ho1.2]; rfl, by rw [ho1.2]; decide⟩ (by first | decide | (simp [Value.category]; done)) (Nat.le_refl _) H (fun r M2 HH hE => ?_)
    obtain ⟨r3, hr, H⟩ := HH hE
    subst hr
    have ho1 := ok_E ho1 hE
    show T _ _ _ _ [.int r3, .int x3, .ref x0] _ _
    refine xt_callV (h2 := h) (as := [.int x3, .int r3]) (st := []) dX11_nodeOf_357 (mlX11_655 rfl) rfl ho1.1 ⟨by rw [ho1.2]; rfl, by rw [ho1.2]; decide⟩ (by first | decide | (simp [Value.category]; done)) (Nat.le_refl _) H (fun r M4 HH hE => ?_)
    obtain ⟨hr, H⟩ := HH hE
    subst hr
    have ho1 := ok_E ho1 hE
    show T _ _ _ _ [] _ _
    refine xt_aload_n (j := 0) dX11_nodeOf_360 rfl rfl ?_
    obtain ⟨b5, hb, H⟩ := H
    refine xt_getR dX11_nodeOf_361 (flX11_147 rfl) ft_13_56 ho1.1 ho1.2 hb ?_
    refine xt_iload (j := 2) dX11_nodeOf_364 rfl ?_
    obtain ⟨ho6, H⟩ := H
    obtain ⟨hi, H⟩ := H
    refine xt_iald dX11_nodeOf_366 ho6.1 ho6.2 hi ?_
    refine xt_istore (lv' := [(4, .int (mAI M4 b5 (x4 : Int32).toNatClampNeg)), (0, .ref x0), (3, .int x3)]) dX11_nodeOf_367 (by decide) rfl ?_
    refine xt_goto (tgt := 343) dX11_nodeOf_369 (by decide) ?_
    exact xt_sub (lv' := [(0, .ref x0), (3, .int x3), (4, .int (mAI M4 b5 (x4 : Int32).toNatClampNeg))]) [1, 2, 0] rfl H
def DX11_nodeOf_24 (h : Nat) (x0 : Nat) (x1 : Int32) (s0 : Int32) (M : Mem) (Q : Option Value → Mem → Prop) : Prop :=
  ok M x0 13 ∧ ∃ b2 : Nat, mR M x0 38 = some b2 ∧ ok M b2 21 ∧ vp_in x1 (mL M b2) ∧ ((mAI M b2 (x1 : Int32).toNatClampNeg) = 1 → E h mdX11_node [.ref x0, .int 2, .int (-1)] M (fun r M4 => mE M M4 → ∃ r5 : Int32, r = some (.int r5) ∧ Q (some (.int r5)) M4)) ∧
  ((mAI M b2 (x1 : Int32).toNatClampNeg) = 2 → E h mdX11_halting [.ref x0] M (fun r M6 => mE M M6 → ∃ r7 : Int32, r = some (.int r7) ∧ Q (some (.int r7)) M6)) ∧
  ((mAI M b2 (x1 : Int32).toNatClampNeg) = 3 → E h mdX11_node [.ref x0, .int 1, .int x1] M (fun r M8 => mE M M8 → ∃ r9 : Int32, r = some (.int r9) ∧ Q (some (.int r9)) M8)) ∧
  ((mAI M b2 (x1 : Int32).toNatClampNeg) = 4 → E h mdX11_node [.ref x0, .int 1, .int x1] M (fun r M10 => mE M M10 → ∃ r11 : Int32, r = some (.int r11) ∧ E h mdX11_node [.ref x0, .int 2, .int (-1)] M10 (fun r M12 => mE M10 M12 → ∃ r13 : Int32, r = some (.int r13) ∧ E h mdX11_over [.ref x0, .int 6, .int (-1), .int r11, .int r13] M12 (fun r M14 => mE M12 M14 → ∃ r15 : Int32, r = some (.int r15) ∧ E h mdX11_over [.ref x0, .int 7, .int (-1), .int r15, .int (-1)] M14 (fun r M16 => mE M14 M16 → ∃ r17 : Int32, r = some (.int r17) ∧ Q (some (.int r17)) M16))))) ∧
  ((mAI M b2 (x1 : Int32).toNatClampNeg) = 5 → E h mdX11_over [.ref x0, .int 7, .int (-1), .int s0, .int (-1)] M (fun r M18 => mE M M18 → ∃ r19 : Int32, r = some (.int r19) ∧ Q (some (.int r19)) M18)) ∧
  ((mAI M b2 (x1 : Int32).toNatClampNeg) = 6 → ∃ b20 : Nat, mR M x0 56 = some b20 ∧ ∃ b21 : Nat, mR M x0 49 = some b21 ∧ ok M b21 21 ∧ vp_in x1 (mL M b21) ∧ ok M b20 21 ∧ vp_in (mAI M b21 (x1 : Int32).toNatClampNeg) (mL M b20) ∧ (¬ (mAI M b20 (mAI M b21 (x1 : Int32).toNatClampNeg : Int32).toNatClampNeg) = (-1) → ∃ b24 : Nat, mR M x0 56 = some b24 ∧ ∃ b25 : Nat, mR M x0 49 = some b25 ∧ ok M b25 21 ∧ vp_in x1 (mL M b25) ∧ ok M b24 21 ∧ vp_in (mAI M b25 (x1 : Int32).toNatClampNeg) (mL M b24) ∧ E h mdX11_rowNode [.ref x0, .int (mAI M b24 (mAI M b25 (x1 : Int32).toNatClampNeg : Int32).toNatClampNeg)] M (fun r M28 => mE M M28 → ∃ r29 : Int32, r = some (.int r29) ∧ DX11_nodeOf_199 h x0 x1 s0 r29 M28 Q)) ∧
  ((mAI M b20 (mAI M b21 (x1 : Int32).toNatClampNeg : Int32).toNatClampNeg) = (-1) → DX11_nodeOf_199 h x0 x1 s0 (-1) M Q)) ∧
  ((mAI M b2 (x1 : Int32).toNatClampNeg) = 7 → ∃ b30 : Nat, mR M x0 41 = some b30 ∧ ok M b30 22 ∧ vp_in x1 (mL M b30) ∧ E h mdX11_awaiting [.ref x0, .int x1, .int (mAI M b30 (x1 : Int32).toNatClampNeg)] M (fun r M32 => mE M M32 → ∃ r33 : Int32, r = some (.int r33) ∧ Q (some (.int r33)) M32)) ∧
  ((mAI M b2 (x1 : Int32).toNatClampNeg) = 8 → E h mdX11_aborting [.ref x0, .int x1, .int s0, .int 0, .int 0] M (fun r M34 => mE M M34 → ∃ r35 : Int32, r = some (.int r35) ∧ ∃ b36 : Nat, mR M34 x0 41 = some b36 ∧ ok M34 b36 22 ∧ vp_in x1 (mL M34 b36) ∧ ((mAI M34 b36 (x1 : Int32).toNatClampNeg) = 0 → DX11_nodeOf_271 h r35 M34 Q) ∧
  (¬ ((mAI M34 b36 (x1 : Int32).toNatClampNeg) = 0) → E h mdX11_node [.ref x0, .int 0, .int (-1)] M34 (fun r M38 => mE M34 M38 → ∃ r39 : Int32, r = some (.int r39) ∧ E h mdX11_over [.ref x0, .int 4, .int x1, .int r39, .int r35] M38 (fun r M40 => mE M38 M40 → ∃ r41 : Int32, r = some (.int r41) ∧ DX11_nodeOf_271 h r41 M40 Q))))) ∧
  ((mAI M b2 (x1 : Int32).toNatClampNeg) = 9 → ∃ b42 : Nat, mR M x0 41 = some b42 ∧ ok M b42 22 ∧ vp_in x1 (mL M b42) ∧ E h mdX11_aborting [.ref x0, .int x1, .int s0, .int 1, .int (mAI M b42 (x1 : Int32).toNatClampNeg)] M (fun r M44 => mE M M44 → ∃ r45 : Int32, r = some (.int r45) ∧ Q (some (.int r45)) M44)) ∧
  ((mAI M b2 (x1 : Int32).toNatClampNeg) = 10 → E h mdX11_over [.ref x0, .int 8, .int x1, .int s0, .int (-1)] M (fun r M46 => mE M M46 → ∃ r47 : Int32, r = some (.int r47) ∧ Q (some (.int r47)) M46)) ∧
  ((mAI M b2 (x1 : Int32).toNatClampNeg) = 11 → E h mdX11_everying [.ref x0, .int x1, .int s0] M (fun r M48 => mE M M48 → ∃ r49 : Int32, r = some (.int r49) ∧ Q (some (.int r49)) M48)) ∧
  ((mAI M b2 (x1 : Int32).toNatClampNeg) = 12 → E h mdX11_over [.ref x0, .int 10, .int x1, .int s0, .int (-1)] M (fun r M50 => mE M M50 → ∃ r51 : Int32, r = some (.int r51) ∧ Q (some (.int r51)) M50)) ∧
  ((mAI M b2 (x1 : Int32).toNatClampNeg) = 13 → E h mdX11_node [.ref x0, .int 3, .int x1] M (fun r M52 => mE M M52 → ∃ r53 : Int32, r = some (.int r53) ∧ Q (some (.int r53)) M52)) ∧
  ((mAI M b2 (x1 : Int32).toNatClampNeg) = 14 → ∃ b54 : Nat, mR M x0 56 = some b54 ∧ ∃ b55 : Nat, mR M x0 49 = some b55 ∧ ok M b55 21 ∧ vp_in x1 (mL M b55) ∧ ok M b54 21 ∧ vp_in (mAI M b55 (x1 : Int32).toNatClampNeg) (mL M b54) ∧ (¬ (mAI M b54 (mAI M b55 (x1 : Int32).toNatClampNeg : Int32).toNatClampNeg) = (-1) → ∃ b58 : Nat, mR M x0 56 = some b58 ∧ ∃ b59 : Nat, mR M x0 49 = some b59 ∧ ok M b59 21 ∧ vp_in x1 (mL M b59) ∧ ok M b58 21 ∧ vp_in (mAI M b59 (x1 : Int32).toNatClampNeg) (mL M b58) ∧ E h mdX11_rowNode [.ref x0, .int (mAI M b58 (mAI M b59 (x1 : Int32).toNatClampNeg : Int32).toNatClampNeg)] M (fun r M62 => mE M M62 → ∃ r63 : Int32, r = some (.int r63) ∧ DX11_nodeOf_199 h x0 x1 s0 r63 M62 Q)) ∧
  ((mAI M b54 (mAI M b55 (x1 : Int32).toNatClampNeg : Int32).toNatClampNeg) = (-1) → DX11_nodeOf_199 h x0 x1 s0 (-1) M Q)) ∧
  ((mAI M b2 (x1 : Int32).toNatClampNeg) = 15 → E h mdX11_node [.ref x0, .int 0, .int (-1)] M (fun r M64 => mE M M64 → ∃ r65 : Int32, r = some (.int r65) ∧ Q (some (.int r65)) M64)) ∧
  ((mAI M b2 (x1 : Int32).toNatClampNeg) = 16 → E h mdX11_over [.ref x0, .int 9, .int (-1), .int s0, .int (-1)] M (fun r M66 => mE M M66 → ∃ r67 : Int32, r = some (.int r67) ∧ ∃ b68 : Nat, mR M66 x0 56 = some b68 ∧ ∃ b69 : Nat, mR M66 x0 49 = some b69 ∧ ok M66 b69 21 ∧ vp_in x1 (mL M66 b69) ∧ ok M66 b68 21 ∧ vp_in (mAI M66 b69 (x1 : Int32).toNatClampNeg) (mL M66 b68) ∧ T (h + 1) mdX11_nodeOf 343 [(0, .ref x0), (3, .int r67), (4, .int (mAI M66 b68 (mAI M66 b69 (x1 : Int32).toNatClampNeg : Int32).toNatClampNeg))] [] M66 Q)) ∧
  (((mAI M b2 (x1 : Int32).toNatClampNeg : Int32).toInt < 1 ∨ 16 < (mAI M b2 (x1 : Int32).toNatClampNeg : Int32).toInt) → E h mdX11_node [.ref x0, .int 0, .int (-1)] M (fun r M72 => mE M M72 → ∃ r73 : Int32, r = some (.int r73) ∧ Q (some (.int r73)) M72))
set_option maxRecDepth 20000 in
set_option maxHeartbeats 2000000 in
theorem VX11_nodeOf_24 {h : Nat} {x0 : Nat} {x1 : Int32} {s0 : Int32} {M : Mem} {Q : Option Value → Mem → Prop} (H : DX11_nodeOf_24 h x0 x1 s0 M Q) : T (h + 1) mdX11_nodeOf 24 [(0, .ref x0), (1, .int x1)] [.int s0] M Q := by
  unfold DX11_nodeOf_24 at H
  refine xt_istore_n (lv' := [(2, .int s0), (0, .ref x0), (1, .int x1)]) dX11_nodeOf_24 rfl (by decide) rfl ?_
  refine xt_aload_n (j := 1) dX11_nodeOf_25 rfl rfl ?_
  obtain ⟨ho1, H⟩ := H
  obtain ⟨b2, hb, H⟩ := H
  refine xt_getR dX11_nodeOf_26 (flX11_96 rfl) ft_13_38 ho1.1 ho1.2 hb ?_
  refine xt_iload_n (j := 2) dX11_nodeOf_29 rfl rfl ?_
  obtain ⟨ho3, H⟩ := H
  obtain ⟨hi, H⟩ := H
  refine xt_iald dX11_nodeOf_30 ho3.1 ho3.2 hi ?_
  by_cases hsw : (mAI M b2 (x1 : Int32).toNatClampNeg : Int32).toInt < 1 ∨ 16 < (mAI M b2 (x1 : Int32).toNatClampNeg : Int32).toInt
  · refine xt_tableOut (tgt := 374) dX11_nodeOf_31 hsw (by decide) ?_
    have H := H.2.2.2.2.2.2.2.2.2.2.2.2.2.2.2.2 hsw
    refine xt_aload_n (j := 1) dX11_nodeOf_374 rfl rfl ?_
    refine xt_iconst (v := 0) dX11_nodeOf_375 (by decide) ?_
    refine xt_iconst (v := -1) dX11_nodeOf_376 (by decide) ?_
    refine xt_callV (h2 := h) (as := [.int 0, .int (-1)]) (st := []) dX11_nodeOf_377 (mlX11_651 rfl) rfl ho1.1 ⟨by rw [ho1.2]; rfl, by rw [ho1.2]; decide⟩ (by first | decide | (simp [Value.category]; done)) (Nat.le_refl _) H (fun r M72 HH hE => ?_)
    obtain ⟨r73, hr, H⟩ := HH hE
    subst hr
    have ho1 := ok_E ho1 hE
    show T _ _ _ _ [.int r73] _ _
    exact xt_ireturn dX11_nodeOf_380 rfl H
  · have hsw2 : (mAI M b2 (x1 : Int32).toNatClampNeg : Int32).toInt = 1 ∨ (mAI M b2 (x1 : Int32).toNatClampNeg : Int32).toInt = 2 ∨ (mAI M b2 (x1 : Int32).toNatClampNeg : Int32).toInt = 3 ∨ (mAI M b2 (x1 : Int32).toNatClampNeg : Int32).toInt = 4 ∨ (mAI M b2 (x1 : Int32).toNatClampNeg : Int32).toInt = 5 ∨ (mAI M b2 (x1 : Int32).toNatClampNeg : Int32).toInt = 6 ∨ (mAI M b2 (x1 : Int32).toNatClampNeg : Int32).toInt = 7 ∨ (mAI M b2 (x1 : Int32).toNatClampNeg : Int32).toInt = 8 ∨ (mAI M b2 (x1 : Int32).toNatClampNeg : Int32).toInt = 9 ∨ (mAI M b2 (x1 : Int32).toNatClampNeg : Int32).toInt = 10 ∨ (mAI M b2 (x1 : Int32).toNatClampNeg : Int32).toInt = 11 ∨ (mAI M b2 (x1 : Int32).toNatClampNeg : Int32).toInt = 12 ∨ (mAI M b2 (x1 : Int32).toNatClampNeg : Int32).toInt = 13 ∨ (mAI M b2 (x1 : Int32).toNatClampNeg : Int32).toInt = 14 ∨ (mAI M b2 (x1 : Int32).toNatClampNeg : Int32).toInt = 15 ∨ (mAI M b2 (x1 : Int32).toNatClampNeg : Int32).toInt = 16 := by omega
    rcases hsw2 with hv | hv | hv | hv | hv | hv | hv | hv | hv | hv | hv | hv | hv | hv | hv | hv
    · have hx : (mAI M b2 (x1 : Int32).toNatClampNeg) = 1 := i32_ofInt hv
      have H := H.1 hx
      refine xt_tableIn (tgt := 108) dX11_nodeOf_31 (by omega) (by omega) (by rw [hv]; rfl) (by decide) ?_
      refine xt_aload_n (j := 1) dX11_nodeOf_108 rfl rfl ?_
      refine xt_iconst (v := 2) dX11_nodeOf_109 (by decide) ?_
      refine xt_iconst (v := -1) dX11_nodeOf_110 (by decide) ?_
      refine xt_callV (h2 := h) (as := [.int 2, .int (-1)]) (st := []) dX11_nodeOf_111 (mlX11_651 rfl) rfl ho1.1 ⟨by rw [ho1.2]; rfl, by rw [ho1.2]; decide⟩ (by first | decide | (simp [Value.category]; done)) (Nat.le_refl _) H (fun r M4 HH hE => ?_)
      obtain ⟨r5, hr, H⟩ := HH hE
      subst hr
      have ho1 := ok_E ho1 hE
      show T _ _ _ _ [.int r5] _ _
      exact xt_ireturn dX11_nodeOf_114 rfl H
    · have hx : (mAI M b2 (x1 : Int32).toNatClampNeg) = 2 := i32_ofInt hv
      have H := H.2.1 hx
      refine xt_tableIn (tgt := 115) dX11_nodeOf_31 (by omega) (by omega) (by rw [hv]; rfl) (by decide) ?_
      refine xt_aload_n (j := 1) dX11_nodeOf_115 rfl rfl ?_
      refine xt_callV (h2 := h) (as := []) (st := []) dX11_nodeOf_116 (mlX11_669 rfl) rfl ho1.1 ⟨by rw [ho1.2]; rfl, by rw [ho1.2]; decide⟩ (by first | decide | (simp [Value.category]; done)) (Nat.le_refl _) H (fun r M6 HH hE => ?_)
      obtain ⟨r7, hr, H⟩ := HH hE
      subst hr
      have ho1 := ok_E ho1 hE
      show T _ _ _ _ [.int r7] _ _
      exact xt_ireturn dX11_nodeOf_119 rfl H
    · have hx : (mAI M b2 (x1 : Int32).toNatClampNeg) = 3 := i32_ofInt hv
      have H := H.2.2.1 hx
      refine xt_tableIn (tgt := 120) dX11_nodeOf_31 (by omega) (by omega) (by rw [hv]; rfl) (by decide) ?_
      refine xt_aload_n (j := 1) dX11_nodeOf_120 rfl rfl ?_
      refine xt_iconst (v := 1) dX11_nodeOf_121 (by decide) ?_
      refine xt_iload_n (j := 2) dX11_nodeOf_122 rfl rfl ?_
      refine xt_callV (h2 := h) (as := [.int 1, .int x1]) (st := []) dX11_nodeOf_123 (mlX11_651 rfl) rfl ho1.1 ⟨by rw [ho1.2]; rfl, by rw [ho1.2]; decide⟩ (by first | decide | (simp [Value.category]; done)) (Nat.le_refl _) H (fun r M8 HH hE => ?_)
      obtain ⟨r9, hr, H⟩ := HH hE
      subst hr
      have ho1 := ok_E ho1 hE
      show T _ _ _ _ [.int r9] _ _
      exact xt_ireturn dX11_nodeOf_126 rfl H
    · have hx : (mAI M b2 (x1 : Int32).toNatClampNeg) = 4 := i32_ofInt hv
      have H := H.2.2.2.1 hx
      refine xt_tableIn (tgt := 127) dX11_nodeOf_31 (by omega) (by omega) (by rw [hv]; rfl) (by decide) ?_
      refine xt_aload_n (j := 1) dX11_nodeOf_127 rfl rfl ?_
      refine xt_bipush (v := 7) dX11_nodeOf_128 (by decide) ?_
      refine xt_iconst (v := -1) dX11_nodeOf_130 (by decide) ?_
      refine xt_aload_n (j := 1) dX11_nodeOf_131 rfl rfl ?_
      refine xt_bipush (v := 6) dX11_nodeOf_132 (by decide) ?_
      refine xt_iconst (v := -1) dX11_nodeOf_134 (by decide) ?_
      refine xt_aload_n (j := 1) dX11_nodeOf_135 rfl rfl ?_
      refine xt_iconst (v := 1) dX11_nodeOf_136 (by decide) ?_
      refine xt_iload_n (j := 2) dX11_nodeOf_137 rfl rfl ?_
      refine xt_callV (h2 := h) (as := [.int 1, .int x1]) (st := [.int (-1), .int 6, .ref x0, .int (-1), .int 7, .ref x0]) dX11_nodeOf_138 (mlX11_651 rfl) rfl ho1.1 ⟨by rw [ho1.2]; rfl, by rw [ho1.2]; decide⟩ (by first | decide | (simp [Value.category]; done)) (Nat.le_refl _) H (fun r M10 HH hE => ?_)
      obtain ⟨r11, hr, H⟩ := HH hE
      subst hr
      have ho1 := ok_E ho1 hE
      show T _ _ _ _ [.int r11, .int (-1), .int 6, .ref x0, .int (-1), .int 7, .ref x0] _ _
      refine xt_aload_n (j := 1) dX11_nodeOf_141 rfl rfl ?_
      refine xt_iconst (v := 2) dX11_nodeOf_142 (by decide) ?_
      refine xt_iconst (v := -1) dX11_nodeOf_143 (by decide) ?_
      refine xt_callV (h2 := h) (as := [.int 2, .int (-1)]) (st := [.int r11, .int (-1), .int 6, .ref x0, .int (-1), .int 7, .ref x0]) dX11_nodeOf_144 (mlX11_651 rfl) rfl ho1.1 ⟨by rw [ho1.2]; rfl, by rw [ho1.2]; decide⟩ (by first | decide | (simp [Value.category]; done)) (Nat.le_refl _) H (fun r M12 HH hE => ?_)
      obtain ⟨r13, hr, H⟩ := HH hE
      subst hr
      have ho1 := ok_E ho1 hE
      show T _ _ _ _ [.int r13, .int r11, .int (-1), .int 6, .ref x0, .int (-1), .int 7, .ref x0] _ _
      refine xt_callV (h2 := h) (as := [.int 6, .int (-1), .int r11, .int r13]) (st := [.int (-1), .int 7, .ref x0]) dX11_nodeOf_147 (mlX11_658 rfl) rfl ho1.1 ⟨by rw [ho1.2]; rfl, by rw [ho1.2]; decide⟩ (by first | decide | (simp [Value.category]; done)) (Nat.le_refl _) H (fun r M14 HH hE => ?_)
      obtain ⟨r15, hr, H⟩ := HH hE
      subst hr
      have ho1 := ok_E ho1 hE
      show T _ _ _ _ [.int r15, .int (-1), .int 7, .ref x0] _ _
      refine xt_iconst (v := -1) dX11_nodeOf_150 (by decide) ?_
      refine xt_callV (h2 := h) (as := [.int 7, .int (-1), .int r15, .int (-1)]) (st := []) dX11_nodeOf_151 (mlX11_658 rfl) rfl ho1.1 ⟨by rw [ho1.2]; rfl, by rw [ho1.2]; decide⟩ (by first | decide | (simp [Value.category]; done)) (Nat.le_refl _) H (fun r M16 HH hE => ?_)
      obtain ⟨r17, hr, H⟩ := HH hE
      subst hr
      have ho1 := ok_E ho1 hE
      show T _ _ _ _ [.int r17] _ _
      exact xt_ireturn dX11_nodeOf_154 rfl H
    · have hx : (mAI M b2 (x1 : Int32).toNatClampNeg) = 5 := i32_ofInt hv
      have H := H.2.2.2.2.1 hx
      refine xt_tableIn (tgt := 155) dX11_nodeOf_31 (by omega) (by omega) (by rw [hv]; rfl) (by decide) ?_
      refine xt_aload_n (j := 1) dX11_nodeOf_155 rfl rfl ?_
      refine xt_bipush (v := 7) dX11_nodeOf_156 (by decide) ?_
      refine xt_iconst (v := -1) dX11_nodeOf_158 (by decide) ?_
      refine xt_iload_n (j := 0) dX11_nodeOf_159 rfl rfl ?_
      refine xt_iconst (v := -1) dX11_nodeOf_160 (by decide) ?_
      refine xt_callV (h2 := h) (as := [.int 7, .int (-1), .int s0, .int (-1)]) (st := []) dX11_nodeOf_161 (mlX11_658 rfl) rfl ho1.1 ⟨by rw [ho1.2]; rfl, by rw [ho1.2]; decide⟩ (by first | decide | (simp [Value.category]; done)) (Nat.le_refl _) H (fun r M18 HH hE => ?_)
      obtain ⟨r19, hr, H⟩ := HH hE
      subst hr
      have ho1 := ok_E ho1 hE
      show T _ _ _ _ [.int r19] _ _
      exact xt_ireturn dX11_nodeOf_164 rfl H
    · have hx : (mAI M b2 (x1 : Int32).toNatClampNeg) = 6 := i32_ofInt hv
      have H := H.2.2.2.2.2.1 hx
      refine xt_tableIn (tgt := 165) dX11_nodeOf_31 (by omega) (by omega) (by rw [hv]; rfl) (by decide) ?_
      refine xt_aload_n (j := 1) dX11_nodeOf_165 rfl rfl ?_
      obtain ⟨b20, hb, H⟩ := H
      refine xt_getR dX11_nodeOf_166 (flX11_147 rfl) ft_13_56 ho1.1 ho1.2 hb ?_
      refine xt_aload_n (j := 1) dX11_nodeOf_169 rfl rfl ?_
      obtain ⟨b21, hb, H⟩ := H
      refine xt_getR dX11_nodeOf_170 (flX11_129 rfl) ft_13_49 ho1.1 ho1.2 hb ?_
      refine xt_iload_n (j := 2) dX11_nodeOf_173 rfl rfl ?_
      obtain ⟨ho22, H⟩ := H
      obtain ⟨hi, H⟩ := H
      refine xt_iald dX11_nodeOf_174 ho22.1 ho22.2 hi ?_
      obtain ⟨ho23, H⟩ := H
      obtain ⟨hi, H⟩ := H
      refine xt_iald dX11_nodeOf_175 ho23.1 ho23.2 hi ?_
      refine xt_iconst (v := -1) dX11_nodeOf_176 (by decide) ?_
      refine xt_icmp_ne (tgt := 184) dX11_nodeOf_177 (by decide) (fun hc => ?_) (fun hc => ?_)
      · have H := H.1 hc
        refine xt_aload_n (j := 1) dX11_nodeOf_184 rfl rfl ?_
        refine xt_aload_n (j := 1) dX11_nodeOf_185 rfl rfl ?_
        obtain ⟨b24, hb, H⟩ := H
        refine xt_getR dX11_nodeOf_186 (flX11_147 rfl) ft_13_56 ho1.1 ho1.2 hb ?_
        refine xt_aload_n (j := 1) dX11_nodeOf_189 rfl rfl ?_
        obtain ⟨b25, hb, H⟩ := H
        refine xt_getR dX11_nodeOf_190 (flX11_129 rfl) ft_13_49 ho1.1 ho1.2 hb ?_
        refine xt_iload_n (j := 2) dX11_nodeOf_193 rfl rfl ?_
        obtain ⟨ho26, H⟩ := H
        obtain ⟨hi, H⟩ := H
        refine xt_iald dX11_nodeOf_194 ho26.1 ho26.2 hi ?_
        obtain ⟨ho27, H⟩ := H
        obtain ⟨hi, H⟩ := H
        refine xt_iald dX11_nodeOf_195 ho27.1 ho27.2 hi ?_
        refine xt_callV (h2 := h) (as := [.int (mAI M b24 (mAI M b25 (x1 : Int32).toNatClampNeg : Int32).toNatClampNeg)]) (st := []) dX11_nodeOf_196 (mlX11_676 rfl) rfl ho1.1 ⟨by rw [ho1.2]; rfl, by rw [ho1.2]; decide⟩ (by first | decide | (simp [Value.category]; done)) (Nat.le_refl _) H (fun r M28 HH hE => ?_)
        obtain ⟨r29, hr, H⟩ := HH hE
        subst hr
        have ho1 := ok_E ho1 hE
        show T _ _ _ _ [.int r29] _ _
        exact xt_sub [1, 2, 0] rfl (VX11_nodeOf_199 H)
      · have H := H.2 hc
        refine xt_iconst (v := -1) dX11_nodeOf_180 (by decide) ?_
        refine xt_goto (tgt := 199) dX11_nodeOf_181 (by decide) ?_
        exact xt_sub [1, 2, 0] rfl (VX11_nodeOf_199 H)
    · have hx : (mAI M b2 (x1 : Int32).toNatClampNeg) = 7 := i32_ofInt hv
      have H := H.2.2.2.2.2.2.1 hx
      refine xt_tableIn (tgt := 224) dX11_nodeOf_31 (by omega) (by omega) (by rw [hv]; rfl) (by decide) ?_
      refine xt_aload_n (j := 1) dX11_nodeOf_224 rfl rfl ?_
      refine xt_iload_n (j := 2) dX11_nodeOf_225 rfl rfl ?_
      refine xt_aload_n (j := 1) dX11_nodeOf_226 rfl rfl ?_
      obtain ⟨b30, hb, H⟩ := H
      refine xt_getR dX11_nodeOf_227 (flX11_105 rfl) ft_13_41 ho1.1 ho1.2 hb ?_
      refine xt_iload_n (j := 2) dX11_nodeOf_230 rfl rfl ?_
      obtain ⟨ho31, H⟩ := H
      obtain ⟨hi, H⟩ := H
      refine xt_zald dX11_nodeOf_231 ho31.1 ho31.2 hi ?_
      refine xt_callV (h2 := h) (as := [.int x1, .int (mAI M b30 (x1 : Int32).toNatClampNeg)]) (st := []) dX11_nodeOf_232 (mlX11_666 rfl) rfl ho1.1 ⟨by rw [ho1.2]; rfl, by rw [ho1.2]; decide⟩ (by first | decide | (simp [Value.category]; done)) (Nat.le_refl _) H (fun r M32 HH hE => ?_)
      obtain ⟨r33, hr, H⟩ := HH hE
      subst hr
      have ho1 := ok_E ho1 hE
      show T _ _ _ _ [.int r33] _ _
      exact xt_ireturn dX11_nodeOf_235 rfl H
    · have hx : (mAI M b2 (x1 : Int32).toNatClampNeg) = 8 := i32_ofInt hv
      have H := H.2.2.2.2.2.2.2.1 hx
      refine xt_tableIn (tgt := 236) dX11_nodeOf_31 (by omega) (by omega) (by rw [hv]; rfl) (by decide) ?_
      refine xt_aload_n (j := 1) dX11_nodeOf_236 rfl rfl ?_
      refine xt_iload_n (j := 2) dX11_nodeOf_237 rfl rfl ?_
      refine xt_iload_n (j := 0) dX11_nodeOf_238 rfl rfl ?_
      refine xt_iconst (v := 0) dX11_nodeOf_239 (by decide) ?_
      refine xt_iconst (v := 0) dX11_nodeOf_240 (by decide) ?_
      refine xt_callV (h2 := h) (as := [.int x1, .int s0, .int 0, .int 0]) (st := []) dX11_nodeOf_241 (mlX11_672 rfl) rfl ho1.1 ⟨by rw [ho1.2]; rfl, by rw [ho1.2]; decide⟩ (by first | decide | (simp [Value.category]; done)) (Nat.le_refl _) H (fun r M34 HH hE => ?_)
      obtain ⟨r35, hr, H⟩ := HH hE
      subst hr
      have ho1 := ok_E ho1 hE
      show T _ _ _ _ [.int r35] _ _
      refine xt_istore_n (lv' := [(3, .int r35), (2, .int s0), (0, .ref x0), (1, .int x1)]) dX11_nodeOf_244 rfl (by decide) rfl ?_
      refine xt_aload_n (j := 2) dX11_nodeOf_245 rfl rfl ?_
      obtain ⟨b36, hb, H⟩ := H
      refine xt_getR dX11_nodeOf_246 (flX11_105 rfl) ft_13_41 ho1.1 ho1.2 hb ?_
      refine xt_iload_n (j := 3) dX11_nodeOf_249 rfl rfl ?_
      obtain ⟨ho37, H⟩ := H
      obtain ⟨hi, H⟩ := H
      refine xt_zald dX11_nodeOf_250 ho37.1 ho37.2 hi ?_
      refine xt_if_eq (tgt := 270) dX11_nodeOf_251 (by decide) (fun hc => ?_) (fun hc => ?_)
      · have H := H.1 hc
        refine xt_iload_n (j := 0) dX11_nodeOf_270 rfl rfl ?_
        exact xt_sub [] rfl (VX11_nodeOf_271 H)
      · have H := H.2 hc
        refine xt_aload_n (j := 2) dX11_nodeOf_254 rfl rfl ?_
        refine xt_iconst (v := 4) dX11_nodeOf_255 (by decide) ?_
        refine xt_iload_n (j := 3) dX11_nodeOf_256 rfl rfl ?_
        refine xt_aload_n (j := 2) dX11_nodeOf_257 rfl rfl ?_
        refine xt_iconst (v := 0) dX11_nodeOf_258 (by decide) ?_
        refine xt_iconst (v := -1) dX11_nodeOf_259 (by decide) ?_
        refine xt_callV (h2 := h) (as := [.int 0, .int (-1)]) (st := [.int x1, .int 4, .ref x0]) dX11_nodeOf_260 (mlX11_651 rfl) rfl ho1.1 ⟨by rw [ho1.2]; rfl, by rw [ho1.2]; decide⟩ (by first | decide | (simp [Value.category]; done)) (Nat.le_refl _) H (fun r M38 HH hE => ?_)
        obtain ⟨r39, hr, H⟩ := HH hE
        subst hr
        have ho1 := ok_E ho1 hE
        show T _ _ _ _ [.int r39, .int x1, .int 4, .ref x0] _ _
        refine xt_iload_n (j := 0) dX11_nodeOf_263 rfl rfl ?_
        refine xt_callV (h2 := h) (as := [.int 4, .int x1, .int r39, .int r35]) (st := []) dX11_nodeOf_264 (mlX11_658 rfl) rfl ho1.1 ⟨by rw [ho1.2]; rfl, by rw [ho1.2]; decide⟩ (by first | decide | (simp [Value.category]; done)) (Nat.le_refl _) H (fun r M40 HH hE => ?_)
        obtain ⟨r41, hr, H⟩ := HH hE
        subst hr
        have ho1 := ok_E ho1 hE
        show T _ _ _ _ [.int r41] _ _
        refine xt_goto (tgt := 271) dX11_nodeOf_267 (by decide) ?_
        exact xt_sub [] rfl (VX11_nodeOf_271 H)
    · have hx : (mAI M b2 (x1 : Int32).toNatClampNeg) = 9 := i32_ofInt hv
      have H := H.2.2.2.2.2.2.2.2.1 hx
      refine xt_tableIn (tgt := 272) dX11_nodeOf_31 (by omega) (by omega) (by rw [hv]; rfl) (by decide) ?_
      refine xt_aload_n (j := 1) dX11_nodeOf_272 rfl rfl ?_
      refine xt_iload_n (j := 2) dX11_nodeOf_273 rfl rfl ?_
      refine xt_iload_n (j := 0) dX11_nodeOf_274 rfl rfl ?_
      refine xt_iconst (v := 1) dX11_nodeOf_275 (by decide) ?_
      refine xt_aload_n (j := 1) dX11_nodeOf_276 rfl rfl ?_
      obtain ⟨b42, hb, H⟩ := H
      refine xt_getR dX11_nodeOf_277 (flX11_105 rfl) ft_13_41 ho1.1 ho1.2 hb ?_
      refine xt_iload_n (j := 2) dX11_nodeOf_280 rfl rfl ?_
      obtain ⟨ho43, H⟩ := H
      obtain ⟨hi, H⟩ := H
      refine xt_zald dX11_nodeOf_281 ho43.1 ho43.2 hi ?_
      refine xt_callV (h2 := h) (as := [.int x1, .int s0, .int 1, .int (mAI M b42 (x1 : Int32).toNatClampNeg)]) (st := []) dX11_nodeOf_282 (mlX11_672 rfl) rfl ho1.1 ⟨by rw [ho1.2]; rfl, by rw [ho1.2]; decide⟩ (by first | decide | (simp [Value.category]; done)) (Nat.le_refl _) H (fun r M44 HH hE => ?_)
      obtain ⟨r45, hr, H⟩ := HH hE
      subst hr
      have ho1 := ok_E ho1 hE
      show T _ _ _ _ [.int r45] _ _
      exact xt_ireturn dX11_nodeOf_285 rfl H
    · have hx : (mAI M b2 (x1 : Int32).toNatClampNeg) = 10 := i32_ofInt hv
      have H := H.2.2.2.2.2.2.2.2.2.1 hx
      refine xt_tableIn (tgt := 286) dX11_nodeOf_31 (by omega) (by omega) (by rw [hv]; rfl) (by decide) ?_
      refine xt_aload_n (j := 1) dX11_nodeOf_286 rfl rfl ?_
      refine xt_bipush (v := 8) dX11_nodeOf_287 (by decide) ?_
      refine xt_iload_n (j := 2) dX11_nodeOf_289 rfl rfl ?_
      refine xt_iload_n (j := 0) dX11_nodeOf_290 rfl rfl ?_
      refine xt_iconst (v := -1) dX11_nodeOf_291 (by decide) ?_
      refine xt_callV (h2 := h) (as := [.int 8, .int x1, .int s0, .int (-1)]) (st := []) dX11_nodeOf_292 (mlX11_658 rfl) rfl ho1.1 ⟨by rw [ho1.2]; rfl, by rw [ho1.2]; decide⟩ (by first | decide | (simp [Value.category]; done)) (Nat.le_refl _) H (fun r M46 HH hE => ?_)
      obtain ⟨r47, hr, H⟩ := HH hE
      subst hr
      have ho1 := ok_E ho1 hE
      show T _ _ _ _ [.int r47] _ _
      exact xt_ireturn dX11_nodeOf_295 rfl H
    · have hx : (mAI M b2 (x1 : Int32).toNatClampNeg) = 11 := i32_ofInt hv
      have H := H.2.2.2.2.2.2.2.2.2.2.1 hx
      refine xt_tableIn (tgt := 296) dX11_nodeOf_31 (by omega) (by omega) (by rw [hv]; rfl) (by decide) ?_
      refine xt_aload_n (j := 1) dX11_nodeOf_296 rfl rfl ?_
      refine xt_iload_n (j := 2) dX11_nodeOf_297 rfl rfl ?_
      refine xt_iload_n (j := 0) dX11_nodeOf_298 rfl rfl ?_
      refine xt_callV (h2 := h) (as := [.int x1, .int s0]) (st := []) dX11_nodeOf_299 (mlX11_679 rfl) rfl ho1.1 ⟨by rw [ho1.2]; rfl, by rw [ho1.2]; decide⟩ (by first | decide | (simp [Value.category]; done)) (Nat.le_refl _) H (fun r M48 HH hE => ?_)
      obtain ⟨r49, hr, H⟩ := HH hE
      subst hr
      have ho1 := ok_E ho1 hE
      show T _ _ _ _ [.int r49] _ _
      exact xt_ireturn dX11_nodeOf_302 rfl H
    · have hx : (mAI M b2 (x1 : Int32).toNatClampNeg) = 12 := i32_ofInt hv
      have H := H.2.2.2.2.2.2.2.2.2.2.2.1 hx
      refine xt_tableIn (tgt := 303) dX11_nodeOf_31 (by omega) (by omega) (by rw [hv]; rfl) (by decide) ?_
      refine xt_aload_n (j := 1) dX11_nodeOf_303 rfl rfl ?_
      refine xt_bipush (v := 10) dX11_nodeOf_304 (by decide) ?_
      refine xt_iload_n (j := 2) dX11_nodeOf_306 rfl rfl ?_
      refine xt_iload_n (j := 0) dX11_nodeOf_307 rfl rfl ?_
      refine xt_iconst (v := -1) dX11_nodeOf_308 (by decide) ?_
      refine xt_callV (h2 := h) (as := [.int 10, .int x1, .int s0, .int (-1)]) (st := []) dX11_nodeOf_309 (mlX11_658 rfl) rfl ho1.1 ⟨by rw [ho1.2]; rfl, by rw [ho1.2]; decide⟩ (by first | decide | (simp [Value.category]; done)) (Nat.le_refl _) H (fun r M50 HH hE => ?_)
      obtain ⟨r51, hr, H⟩ := HH hE
      subst hr
      have ho1 := ok_E ho1 hE
      show T _ _ _ _ [.int r51] _ _
      exact xt_ireturn dX11_nodeOf_312 rfl H
    · have hx : (mAI M b2 (x1 : Int32).toNatClampNeg) = 13 := i32_ofInt hv
      have H := H.2.2.2.2.2.2.2.2.2.2.2.2.1 hx
      refine xt_tableIn (tgt := 313) dX11_nodeOf_31 (by omega) (by omega) (by rw [hv]; rfl) (by decide) ?_
      refine xt_aload_n (j := 1) dX11_nodeOf_313 rfl rfl ?_
      refine xt_iconst (v := 3) dX11_nodeOf_314 (by decide) ?_
      refine xt_iload_n (j := 2) dX11_nodeOf_315 rfl rfl ?_
      refine xt_callV (h2 := h) (as := [.int 3, .int x1]) (st := []) dX11_nodeOf_316 (mlX11_651 rfl) rfl ho1.1 ⟨by rw [ho1.2]; rfl, by rw [ho1.2]; decide⟩ (by first | decide | (simp [Value.category]; done)) (Nat.le_refl _) H (fun r M52 HH hE => ?_)
      obtain ⟨r53, hr, H⟩ := HH hE
      subst hr
      have ho1 := ok_E ho1 hE
      show T _ _ _ _ [.int r53] _ _
      exact xt_ireturn dX11_nodeOf_319 rfl H
    · have hx : (mAI M b2 (x1 : Int32).toNatClampNeg) = 14 := i32_ofInt hv
      have H := H.2.2.2.2.2.2.2.2.2.2.2.2.2.1 hx
      refine xt_tableIn (tgt := 165) dX11_nodeOf_31 (by omega) (by omega) (by rw [hv]; rfl) (by decide) ?_
      refine xt_aload_n (j := 1) dX11_nodeOf_165 rfl rfl ?_
      obtain ⟨b54, hb, H⟩ := H
      refine xt_getR dX11_nodeOf_166 (flX11_147 rfl) ft_13_56 ho1.1 ho1.2 hb ?_
      refine xt_aload_n (j := 1) dX11_nodeOf_169 rfl rfl ?_
      obtain ⟨b55, hb, H⟩ := H
      refine xt_getR dX11_nodeOf_170 (flX11_129 rfl) ft_13_49 ho1.1 ho1.2 hb ?_
      refine xt_iload_n (j := 2) dX11_nodeOf_173 rfl rfl ?_
      obtain ⟨ho56, H⟩ := H
      obtain ⟨hi, H⟩ := H
      refine xt_iald dX11_nodeOf_174 ho56.1 ho56.2 hi ?_
      obtain ⟨ho57, H⟩ := H
      obtain ⟨hi, H⟩ := H
      refine xt_iald dX11_nodeOf_175 ho57.1 ho57.2 hi ?_
      refine xt_iconst (v := -1) dX11_nodeOf_176 (by decide) ?_
      refine xt_icmp_ne (tgt := 184) dX11_nodeOf_177 (by decide) (fun hc => ?_) (fun hc => ?_)
      · have H := H.1 hc
        refine xt_aload_n (j := 1) dX11_nodeOf_184 rfl rfl ?_
        refine xt_aload_n (j := 1) dX11_nodeOf_185 rfl rfl ?_
        obtain ⟨b58, hb, H⟩ := H
        refine xt_getR dX11_nodeOf_186 (flX11_147 rfl) ft_13_56 ho1.1 ho1.2 hb ?_
        refine xt_aload_n (j := 1) dX11_nodeOf_189 rfl rfl ?_
        obtain ⟨b59, hb, H⟩ := H
        refine xt_getR dX11_nodeOf_190 (flX11_129 rfl) ft_13_49 ho1.1 ho1.2 hb ?_
        refine xt_iload_n (j := 2) dX11_nodeOf_193 rfl rfl ?_
        obtain ⟨ho60, H⟩ := H
        obtain ⟨hi, H⟩ := H
        refine xt_iald dX11_nodeOf_194 ho60.1 ho60.2 hi ?_
        obtain ⟨ho61, H⟩ := H
        obtain ⟨hi, H⟩ := H
        refine xt_iald dX11_nodeOf_195 ho61.1 ho61.2 hi ?_
        refine xt_callV (h2 := h) (as := [.int (mAI M b58 (mAI M b59 (x1 : Int32).toNatClampNeg : Int32).toNatClampNeg)]) (st := []) dX11_nodeOf_196 (mlX11_676 rfl) rfl ho1.1 ⟨by rw [ho1.2]; rfl, by rw [ho1.2]; decide⟩ (by first | decide | (simp [Value.category]; done)) (Nat.le_refl _) H (fun r M62 HH hE => ?_)
        obtain ⟨r63, hr, H⟩ := HH hE
        subst hr
        have ho1 := ok_E ho1 hE
        show T _ _ _ _ [.int r63] _ _
        exact xt_sub [1, 2, 0] rfl (VX11_nodeOf_199 H)
      · have H := H.2 hc
        refine xt_iconst (v := -1) dX11_nodeOf_180 (by decide) ?_
        refine xt_goto (tgt := 199) dX11_nodeOf_181 (by decide) ?_
        exact xt_sub [1, 2, 0] rfl (VX11_nodeOf_199 H)
    · have hx : (mAI M b2 (x1 : Int32).toNatClampNeg) = 15 := i32_ofInt hv
      have H := H.2.2.2.2.2.2.2.2.2.2.2.2.2.2.1 hx
      refine xt_tableIn (tgt := 374) dX11_nodeOf_31 (by omega) (by omega) (by rw [hv]; rfl) (by decide) ?_
      refine xt_aload_n (j := 1) dX11_nodeOf_374 rfl rfl ?_
      refine xt_iconst (v := 0) dX11_nodeOf_375 (by decide) ?_
      refine xt_iconst (v := -1) dX11_nodeOf_376 (by decide) ?_
      refine xt_callV (h2 := h) (as := [.int 0, .int (-1)]) (st := []) dX11_nodeOf_377 (mlX11_651 rfl) rfl ho1.1 ⟨by rw [ho1.2]; rfl, by rw [ho1.2]; decide⟩ (by first | decide | (simp [Value.category]; done)) (Nat.le_refl _) H (fun r M64 HH hE => ?_)
      obtain ⟨r65, hr, H⟩ := HH hE
      subst hr
      have ho1 := ok_E ho1 hE
      show T _ _ _ _ [.int r65] _ _
      exact xt_ireturn dX11_nodeOf_380 rfl H
    · have hx : (mAI M b2 (x1 : Int32).toNatClampNeg) = 16 := i32_ofInt hv
      have H := H.2.2.2.2.2.2.2.2.2.2.2.2.2.2.2.1 hx
      refine xt_tableIn (tgt := 320) dX11_nodeOf_31 (by omega) (by omega) (by rw [hv]; rfl) (by decide) ?_
      refine xt_aload_n (j := 1) dX11_nodeOf_320 rfl rfl ?_
      refine xt_bipush (v := 9) dX11_nodeOf_321 (by decide) ?_
      refine xt_iconst (v := -1) dX11_nodeOf_323 (by decide) ?_
      refine xt_iload_n (j := 0) dX11_nodeOf_324 rfl rfl ?_
      refine xt_iconst (v := -1) dX11_nodeOf_325 (by decide) ?_
      refine xt_callV (h2 := h) (as := [.int 9, .int (-1), .int s0, .int (-1)]) (st := []) dX11_nodeOf_326 (mlX11_658 rfl) rfl ho1.1 ⟨by rw [ho1.2]; rfl, by rw [ho1.2]; decide⟩ (by first | decide | (simp [Value.category]; done)) (Nat.le_refl _) H (fun r M66 HH hE => ?_)
      obtain ⟨r67, hr, H⟩ := HH hE
      subst hr
      have ho1 := ok_E ho1 hE
      show T _ _ _ _ [.int r67] _ _
      refine xt_istore_n (lv' := [(3, .int r67), (2, .int s0), (0, .ref x0), (1, .int x1)]) dX11_nodeOf_329 rfl (by decide) rfl ?_
      refine xt_aload_n (j := 2) dX11_nodeOf_330 rfl rfl ?_
      obtain ⟨b68, hb, H⟩ := H
      refine xt_getR dX11_nodeOf_331 (flX11_147 rfl) ft_13_56 ho1.1 ho1.2 hb ?_
      refine xt_aload_n (j := 2) dX11_nodeOf_334 rfl rfl ?_
      obtain ⟨b69, hb, H⟩ := H
      refine xt_getR dX11_nodeOf_335 (flX11_129 rfl) ft_13_49 ho1.1 ho1.2 hb ?_
      refine xt_iload_n (j := 3) dX11_nodeOf_338 rfl rfl ?_
      obtain ⟨ho70, H⟩ := H
      obtain ⟨hi, H⟩ := H
      refine xt_iald dX11_nodeOf_339 ho70.1 ho70.2 hi ?_
      obtain ⟨ho71, H⟩ := H
      obtain ⟨hi, H⟩ := H
      refine xt_iald dX11_nodeOf_340 ho71.1 ho71.2 hi ?_
      refine xt_istore (lv' := [(4, .int (mAI M66 b68 (mAI M66 b69 (x1 : Int32).toNatClampNeg : Int32).toNatClampNeg)), (3, .int r67), (2, .int s0), (0, .ref x0), (1, .int x1)]) dX11_nodeOf_341 (by decide) rfl ?_
      exact xt_sub (lv' := [(0, .ref x0), (3, .int r67), (4, .int (mAI M66 b68 (mAI M66 b69 (x1 : Int32).toNatClampNeg : Int32).toNatClampNeg))]) [3, 1, 0] rfl H
def DX11_nodeOf_0 (h : Nat) (x0 : Nat) (x1 : Int32) (M : Mem) (Q : Option Value → Mem → Prop) : Prop :=
  ok M x0 13 ∧ ∃ b2 : Nat, mR M x0 49 = some b2 ∧ ok M b2 21 ∧ vp_in x1 (mL M b2) ∧ (¬ (mAI M b2 (x1 : Int32).toNatClampNeg) = (-1) → ∃ b4 : Nat, mR M x0 49 = some b4 ∧ ok M b4 21 ∧ vp_in x1 (mL M b4) ∧ E h mdX11_rowNode [.ref x0, .int (mAI M b4 (x1 : Int32).toNatClampNeg)] M (fun r M6 => mE M M6 → ∃ r7 : Int32, r = some (.int r7) ∧ DX11_nodeOf_24 h x0 x1 r7 M6 Q)) ∧
  ((mAI M b2 (x1 : Int32).toNatClampNeg) = (-1) → DX11_nodeOf_24 h x0 x1 (-1) M Q)
set_option maxRecDepth 20000 in
set_option maxHeartbeats 2000000 in
theorem VX11_nodeOf_0 {h : Nat} {x0 : Nat} {x1 : Int32} {M : Mem} {Q : Option Value → Mem → Prop} (H : DX11_nodeOf_0 h x0 x1 M Q) : T (h + 1) mdX11_nodeOf 0 [(0, .ref x0), (1, .int x1)] [] M Q := by
  unfold DX11_nodeOf_0 at H
  refine xt_aload_n (j := 0) dX11_nodeOf_0 rfl rfl ?_
  obtain ⟨ho1, H⟩ := H
  obtain ⟨b2, hb, H⟩ := H
  refine xt_getR dX11_nodeOf_1 (flX11_129 rfl) ft_13_49 ho1.1 ho1.2 hb ?_
  refine xt_iload_n (j := 1) dX11_nodeOf_4 rfl rfl ?_
  obtain ⟨ho3, H⟩ := H
  obtain ⟨hi, H⟩ := H
  refine xt_iald dX11_nodeOf_5 ho3.1 ho3.2 hi ?_
  refine xt_iconst (v := -1) dX11_nodeOf_6 (by decide) ?_
  refine xt_icmp_ne (tgt := 14) dX11_nodeOf_7 (by decide) (fun hc => ?_) (fun hc => ?_)
  · have H := H.1 hc
    refine xt_aload_n (j := 0) dX11_nodeOf_14 rfl rfl ?_
    refine xt_aload_n (j := 0) dX11_nodeOf_15 rfl rfl ?_
    obtain ⟨b4, hb, H⟩ := H
    refine xt_getR dX11_nodeOf_16 (flX11_129 rfl) ft_13_49 ho1.1 ho1.2 hb ?_
    refine xt_iload_n (j := 1) dX11_nodeOf_19 rfl rfl ?_
    obtain ⟨ho5, H⟩ := H
    obtain ⟨hi, H⟩ := H
    refine xt_iald dX11_nodeOf_20 ho5.1 ho5.2 hi ?_
    refine xt_callV (h2 := h) (as := [.int (mAI M b4 (x1 : Int32).toNatClampNeg)]) (st := []) dX11_nodeOf_21 (mlX11_676 rfl) rfl ho1.1 ⟨by rw [ho1.2]; rfl, by rw [ho1.2]; decide⟩ (by first | decide | (simp [Value.category]; done)) (Nat.le_refl _) H (fun r M6 HH hE => ?_)
    obtain ⟨r7, hr, H⟩ := HH hE
    subst hr
    have ho1 := ok_E ho1 hE
    show T _ _ _ _ [.int r7] _ _
    exact xt_sub [0, 1] rfl (VX11_nodeOf_24 H)
  · have H := H.2 hc
    refine xt_iconst (v := -1) dX11_nodeOf_10 (by decide) ?_
    refine xt_goto (tgt := 24) dX11_nodeOf_11 (by decide) ?_
    exact xt_sub [0, 1] rfl (VX11_nodeOf_24 H)
theorem KX11_nodeOf {h : Nat} {x0 : Nat} {x1 : Int32} {M : Mem} {Q : Option Value → Mem → Prop} (H : DX11_nodeOf_0 h x0 x1 M Q) : E (h + 1) mdX11_nodeOf [.ref x0, .int x1] M Q := E.of (by decide) (Nat.le_of_ble_eq_true rfl) (fun _ _ _ => trivial) (VX11_nodeOf_0 H)
def DX11_build_20 (h : Nat) (x0 : Nat) (x1 : Int32) (x2 : Int32) (M : Mem) (Q : Option Value → Mem → Prop) : Prop :=
  ok M x0 13 ∧ (x2 < (40 * (mI M x0 19)) → ∃ b2 : Nat, mR M x0 73 = some b2 ∧ E h mdX11_rowNode [.ref x0, .int x1] M (fun r M3 => mE M M3 → ∃ r4 : Int32, r = some (.int r4) ∧ ok M3 b2 21 ∧ vp_in (mI M x0 19) (mL M3 b2) ∧ ∀ M6 : Mem, M6 = wAI M3 b2 (mI M x0 19 : Int32).toNatClampNeg r4 →
  E h mdX11_goThrough [.ref x0] M6 (fun r M7 => mE M6 M7 → r = none ∧ Q none M7))) ∧
  (¬ (x2 < (40 * (mI M x0 19))) → ∃ b8 : Nat, mR M x0 72 = some b8 ∧ E h mdX11_nodeOf [.ref x0, .int x2] M (fun r M9 => mE M M9 → ∃ r10 : Int32, r = some (.int r10) ∧ ok M9 b8 21 ∧ vp_in x2 (mL M9 b8) ∧ ∀ M12 : Mem, M12 = wAI M9 b8 (x2 : Int32).toNatClampNeg r10 →
  T (h + 1) mdX11_build 20 [(0, .ref x0), (1, .int x1), (2, .int (x2 + (-1)))] [] M12 Q))
set_option maxRecDepth 20000 in
set_option maxHeartbeats 2000000 in
theorem VX11_build_20 {h : Nat} {x0 : Nat} {x1 : Int32} {x2 : Int32} {M : Mem} {Q : Option Value → Mem → Prop} (H : DX11_build_20 h x0 x1 x2 M Q) : T (h + 1) mdX11_build 20 [(0, .ref x0), (1, .int x1), (2, .int x2)] [] M Q := by
  unfold DX11_build_20 at H
  refine xt_iload_n (j := 2) dX11_build_20 rfl rfl ?_
  refine xt_bipush (v := 40) dX11_build_21 (by decide) ?_
  refine xt_aload_n (j := 0) dX11_build_23 rfl rfl ?_
  obtain ⟨ho1, H⟩ := H
  refine xt_getI dX11_build_24 (flX11_450 rfl) ft_13_19 ho1.1 ho1.2 ?_
  refine xt_imul dX11_build_27 ?_
  refine xt_icmp_lt (tgt := 48) dX11_build_28 (by decide) (fun hc => ?_) (fun hc => ?_)
  · have H := H.1 hc
    refine xt_aload_n (j := 0) dX11_build_48 rfl rfl ?_
    obtain ⟨b2, hb, H⟩ := H
    refine xt_getR dX11_build_49 (flX11_195 rfl) ft_13_73 ho1.1 ho1.2 hb ?_
    refine xt_aload_n (j := 0) dX11_build_52 rfl rfl ?_
    refine xt_getI dX11_build_53 (flX11_450 rfl) ft_13_19 ho1.1 ho1.2 ?_
    refine xt_aload_n (j := 0) dX11_build_56 rfl rfl ?_
    refine xt_iload_n (j := 1) dX11_build_57 rfl rfl ?_
    refine xt_callV (h2 := h) (as := [.int x1]) (st := [.int (mI M x0 19), .ref b2]) dX11_build_58 (mlX11_676 rfl) rfl ho1.1 ⟨by rw [ho1.2]; rfl, by rw [ho1.2]; decide⟩ (by first | decide | (simp [Value.category]; done)) (Nat.le_refl _) H (fun r M3 HH hE => ?_)
    obtain ⟨r4, hr, H⟩ := HH hE
    subst hr
    have ho1 := ok_E ho1 hE
    show T _ _ _ _ [.int r4, .int (mI M x0 19), .ref b2] _ _
    obtain ⟨ho5, H⟩ := H
    obtain ⟨hi, H⟩ := H
    obtain ⟨M6, eM6⟩ : ∃ z, z = wAI M3 b2 (mI M x0 19 : Int32).toNatClampNeg r4 := ⟨_, rfl⟩
    have H := H _ eM6
    refine xt_iast dX11_build_61 ho5.1 ho5.2 hi ?_
    have ho1 : ok M6 x0 13 := by rw [eM6]; exact ho1
    rw [← eM6]
    refine xt_aload_n (j := 0) dX11_build_62 rfl rfl ?_
    refine xt_callV (h2 := h) (as := []) (st := []) dX11_build_63 (mlX11_685 rfl) rfl ho1.1 ⟨by rw [ho1.2]; rfl, by rw [ho1.2]; decide⟩ (by first | decide | (simp [Value.category]; done)) (Nat.le_refl _) H (fun r M7 HH hE => ?_)
    obtain ⟨hr, H⟩ := HH hE
    subst hr
    have ho1 := ok_E ho1 hE
    show T _ _ _ _ [] _ _
    exact xt_return dX11_build_66 rfl H
  · have H := H.2 hc
    refine xt_aload_n (j := 0) dX11_build_31 rfl rfl ?_
    obtain ⟨b8, hb, H⟩ := H
    refine xt_getR dX11_build_32 (flX11_192 rfl) ft_13_72 ho1.1 ho1.2 hb ?_
    refine xt_iload_n (j := 2) dX11_build_35 rfl rfl ?_
    refine xt_aload_n (j := 0) dX11_build_36 rfl rfl ?_
    refine xt_iload_n (j := 2) dX11_build_37 rfl rfl ?_
    refine xt_callV (h2 := h) (as := [.int x2]) (st := [.int x2, .ref b8]) dX11_build_38 (mlX11_682 rfl) rfl ho1.1 ⟨by rw [ho1.2]; rfl, by rw [ho1.2]; decide⟩ (by first | decide | (simp [Value.category]; done)) (Nat.le_refl _) H (fun r M9 HH hE => ?_)
    obtain ⟨r10, hr, H⟩ := HH hE
    subst hr
    have ho1 := ok_E ho1 hE
    show T _ _ _ _ [.int r10, .int x2, .ref b8] _ _
    obtain ⟨ho11, H⟩ := H
    obtain ⟨hi, H⟩ := H
    obtain ⟨M12, eM12⟩ : ∃ z, z = wAI M9 b8 (x2 : Int32).toNatClampNeg r10 := ⟨_, rfl⟩
    have H := H _ eM12
    refine xt_iast dX11_build_41 ho11.1 ho11.2 hi ?_
    have ho1 : ok M12 x0 13 := by rw [eM12]; exact ho1
    rw [← eM12]
    refine xt_iinc (j := 2) (v := x2 + (-1)) (lv' := [(2, .int (x2 + (-1))), (0, .ref x0), (1, .int x1)]) dX11_build_42 rfl (by rfl) (by decide) rfl ?_
    refine xt_goto (tgt := 20) dX11_build_45 (by decide) ?_
    exact xt_sub (lv' := [(0, .ref x0), (1, .int x1), (2, .int (x2 + (-1)))]) [1, 2, 0] rfl H
def DX11_build_0 (h : Nat) (x0 : Nat) (x1 : Int32) (M : Mem) (Q : Option Value → Mem → Prop) : Prop :=
  ok M x0 13 ∧ ∃ b2 : Nat, mR M x0 34 = some b2 ∧ ok M b2 21 ∧ vp_in (mI M x0 19) (mL M b2) ∧ T (h + 1) mdX11_build 20 [(0, .ref x0), (1, .int x1), (2, .int (((40 * (mI M x0 19)) + (mAI M b2 (mI M x0 19 : Int32).toNatClampNeg)) - 1))] [] M Q
set_option maxRecDepth 20000 in
set_option maxHeartbeats 2000000 in
theorem VX11_build_0 {h : Nat} {x0 : Nat} {x1 : Int32} {M : Mem} {Q : Option Value → Mem → Prop} (H : DX11_build_0 h x0 x1 M Q) : T (h + 1) mdX11_build 0 [(0, .ref x0), (1, .int x1)] [] M Q := by
  unfold DX11_build_0 at H
  refine xt_bipush (v := 40) dX11_build_0 (by decide) ?_
  refine xt_aload_n (j := 0) dX11_build_2 rfl rfl ?_
  obtain ⟨ho1, H⟩ := H
  refine xt_getI dX11_build_3 (flX11_450 rfl) ft_13_19 ho1.1 ho1.2 ?_
  refine xt_imul dX11_build_6 ?_
  refine xt_aload_n (j := 0) dX11_build_7 rfl rfl ?_
  obtain ⟨b2, hb, H⟩ := H
  refine xt_getR dX11_build_8 (flX11_84 rfl) ft_13_34 ho1.1 ho1.2 hb ?_
  refine xt_aload_n (j := 0) dX11_build_11 rfl rfl ?_
  refine xt_getI dX11_build_12 (flX11_450 rfl) ft_13_19 ho1.1 ho1.2 ?_
  obtain ⟨ho3, H⟩ := H
  obtain ⟨hi, H⟩ := H
  refine xt_iald dX11_build_15 ho3.1 ho3.2 hi ?_
  refine xt_iadd dX11_build_16 ?_
  refine xt_iconst (v := 1) dX11_build_17 (by decide) ?_
  refine xt_isub dX11_build_18 ?_
  refine xt_istore_n (lv' := [(2, .int (((40 * (mI M x0 19)) + (mAI M b2 (mI M x0 19 : Int32).toNatClampNeg)) - 1)), (0, .ref x0), (1, .int x1)]) dX11_build_19 rfl (by decide) rfl ?_
  exact xt_sub (lv' := [(0, .ref x0), (1, .int x1), (2, .int (((40 * (mI M x0 19)) + (mAI M b2 (mI M x0 19 : Int32).toNatClampNeg)) - 1))]) [1, 2, 0] rfl H
theorem KX11_build {h : Nat} {x0 : Nat} {x1 : Int32} {M : Mem} {Q : Option Value → Mem → Prop} (H : DX11_build_0 h x0 x1 M Q) : E (h + 1) mdX11_build [.ref x0, .int x1] M Q := E.of (by decide) (Nat.le_of_ble_eq_true rfl) (fun _ _ _ => trivial) (VX11_build_0 H)
def DX11_step_34 (h : Nat) (x0 : Nat) (s0 : Nat) (s1 : Int32) (s2 : Int32) (s3 : Int32) (M : Mem) (Q : Option Value → Mem → Prop) : Prop :=
  ok M s0 21 ∧ vp_in s1 (mL M s0) ∧ ∀ M2 : Mem, M2 = wAI M s0 (s1 : Int32).toNatClampNeg (s2 + s3) →
  ok M2 x0 13 ∧ ∃ b4 : Nat, mR M2 x0 76 = some b4 ∧ ok M2 b4 21 ∧ vp_in (mI M2 x0 19) (mL M2 b4) ∧ vp_in (mI M2 x0 19) (mL M2 b4) ∧ ∀ M6 : Mem, M6 = wAI M2 b4 (mI M2 x0 19 : Int32).toNatClampNeg ((mAI M2 b4 (mI M2 x0 19 : Int32).toNatClampNeg) + 1) →
  Q none M6
set_option maxRecDepth 20000 in
set_option maxHeartbeats 2000000 in
theorem VX11_step_34 {h : Nat} {x0 : Nat} {s0 : Nat} {s1 : Int32} {s2 : Int32} {s3 : Int32} {M : Mem} {Q : Option Value → Mem → Prop} (H : DX11_step_34 h x0 s0 s1 s2 s3 M Q) : T (h + 1) mdX11_step 34 [(0, .ref x0)] [.int s3, .int s2, .int s1, .ref s0] M Q := by
  unfold DX11_step_34 at H
  refine xt_iadd dX11_step_34 ?_
  obtain ⟨ho1, H⟩ := H
  obtain ⟨hi, H⟩ := H
  obtain ⟨M2, eM2⟩ : ∃ z, z = wAI M s0 (s1 : Int32).toNatClampNeg (s2 + s3) := ⟨_, rfl⟩
  have H := H _ eM2
  refine xt_iast dX11_step_35 ho1.1 ho1.2 hi ?_
  rw [← eM2]
  refine xt_aload_n (j := 0) dX11_step_36 rfl rfl ?_
  obtain ⟨ho3, H⟩ := H
  obtain ⟨b4, hb, H⟩ := H
  refine xt_getR dX11_step_37 (flX11_204 rfl) ft_13_76 ho3.1 ho3.2 hb ?_
  refine xt_aload_n (j := 0) dX11_step_40 rfl rfl ?_
  refine xt_getI dX11_step_41 (flX11_450 rfl) ft_13_19 ho3.1 ho3.2 ?_
  refine xt_dup2 dX11_step_44 rfl rfl ?_
  obtain ⟨ho5, H⟩ := H
  obtain ⟨hi, H⟩ := H
  refine xt_iald dX11_step_45 ho5.1 ho5.2 hi ?_
  refine xt_iconst (v := 1) dX11_step_46 (by decide) ?_
  refine xt_iadd dX11_step_47 ?_
  obtain ⟨hi, H⟩ := H
  obtain ⟨M6, eM6⟩ : ∃ z, z = wAI M2 b4 (mI M2 x0 19 : Int32).toNatClampNeg ((mAI M2 b4 (mI M2 x0 19 : Int32).toNatClampNeg) + 1) := ⟨_, rfl⟩
  have H := H _ eM6
  refine xt_iast dX11_step_48 ho5.1 ho5.2 hi ?_
  have ho3 : ok M6 x0 13 := by rw [eM6]; exact ho3
  rw [← eM6]
  exact xt_return dX11_step_49 rfl H
def DX11_step_0 (h : Nat) (x0 : Nat) (x1 : Int32) (x2 : Int32) (M : Mem) (Q : Option Value → Mem → Prop) : Prop :=
  ok M x0 13 ∧ ∃ b2 : Nat, mR M x0 75 = some b2 ∧ ∃ b3 : Nat, mR M x0 76 = some b3 ∧ ok M b3 21 ∧ vp_in (mI M x0 19) (mL M b3) ∧ (x2 = 0 → DX11_step_34 h x0 b2 ((1400 * (mI M x0 19)) + (mAI M b3 (mI M x0 19 : Int32).toNatClampNeg)) (2 * x1) 0 M Q) ∧
  (¬ (x2 = 0) → DX11_step_34 h x0 b2 ((1400 * (mI M x0 19)) + (mAI M b3 (mI M x0 19 : Int32).toNatClampNeg)) (2 * x1) 1 M Q)
set_option maxRecDepth 20000 in
set_option maxHeartbeats 2000000 in
theorem VX11_step_0 {h : Nat} {x0 : Nat} {x1 : Int32} {x2 : Int32} {M : Mem} {Q : Option Value → Mem → Prop} (H : DX11_step_0 h x0 x1 x2 M Q) : T (h + 1) mdX11_step 0 [(0, .ref x0), (1, .int x1), (2, .int x2)] [] M Q := by
  unfold DX11_step_0 at H
  refine xt_aload_n (j := 0) dX11_step_0 rfl rfl ?_
  obtain ⟨ho1, H⟩ := H
  obtain ⟨b2, hb, H⟩ := H
  refine xt_getR dX11_step_1 (flX11_201 rfl) ft_13_75 ho1.1 ho1.2 hb ?_
  refine xt_sipush (v := 1400) dX11_step_4 (by decide) ?_
  refine xt_aload_n (j := 0) dX11_step_7 rfl rfl ?_
  refine xt_getI dX11_step_8 (flX11_450 rfl) ft_13_19 ho1.1 ho1.2 ?_
  refine xt_imul dX11_step_11 ?_
  refine xt_aload_n (j := 0) dX11_step_12 rfl rfl ?_
  obtain ⟨b3, hb, H⟩ := H
  refine xt_getR dX11_step_13 (flX11_204 rfl) ft_13_76 ho1.1 ho1.2 hb ?_
  refine xt_aload_n (j := 0) dX11_step_16 rfl rfl ?_
  refine xt_getI dX11_step_17 (flX11_450 rfl) ft_13_19 ho1.1 ho1.2 ?_
  obtain ⟨ho4, H⟩ := H
  obtain ⟨hi, H⟩ := H
  refine xt_iald dX11_step_20 ho4.1 ho4.2 hi ?_
  refine xt_iadd dX11_step_21 ?_
  refine xt_iconst (v := 2) dX11_step_22 (by decide) ?_
  refine xt_iload_n (j := 1) dX11_step_23 rfl rfl ?_
  refine xt_imul dX11_step_24 ?_
  refine xt_iload_n (j := 2) dX11_step_25 rfl rfl ?_
  refine xt_if_eq (tgt := 33) dX11_step_26 (by decide) (fun hc => ?_) (fun hc => ?_)
  · have H := H.1 hc
    refine xt_iconst (v := 0) dX11_step_33 (by decide) ?_
    exact xt_sub [0] rfl (VX11_step_34 H)
  · have H := H.2 hc
    refine xt_iconst (v := 1) dX11_step_29 (by decide) ?_
    refine xt_goto (tgt := 34) dX11_step_30 (by decide) ?_
    exact xt_sub [0] rfl (VX11_step_34 H)
theorem KX11_step {h : Nat} {x0 : Nat} {x1 : Int32} {x2 : Int32} {M : Mem} {Q : Option Value → Mem → Prop} (H : DX11_step_0 h x0 x1 x2 M Q) : E (h + 1) mdX11_step [.ref x0, .int x1, .int x2] M Q := E.of (by decide) (Nat.le_of_ble_eq_true rfl) (fun _ _ _ => trivial) (VX11_step_0 H)
def DX11_goThrough_250 (h : Nat) (x0 : Nat) (x1 : Int32) (x3 : Int32) (s0 : Int32) (M : Mem) (Q : Option Value → Mem → Prop) : Prop :=
  T (h + 1) mdX11_goThrough 34 [(0, .ref x0), (1, .int x1), (2, .int s0), (3, .int x3)] [] M Q
set_option maxRecDepth 20000 in
set_option maxHeartbeats 2000000 in
theorem VX11_goThrough_250 {h : Nat} {x0 : Nat} {x1 : Int32} {x3 : Int32} {s0 : Int32} {M : Mem} {Q : Option Value → Mem → Prop} (H : DX11_goThrough_250 h x0 x1 x3 s0 M Q) : T (h + 1) mdX11_goThrough 250 [(0, .ref x0), (1, .int x1), (3, .int x3)] [.int s0] M Q := by
  unfold DX11_goThrough_250 at H
  refine xt_istore_n (lv' := [(2, .int s0), (0, .ref x0), (1, .int x1), (3, .int x3)]) dX11_goThrough_250 rfl (by decide) rfl ?_
  refine xt_goto (tgt := 34) dX11_goThrough_251 (by decide) ?_
  exact xt_sub (lv' := [(0, .ref x0), (1, .int x1), (2, .int s0), (3, .int x3)]) [1, 2, 0, 3] rfl H
def DX11_goThrough_234 (h : Nat) (x0 : Nat) (x1 : Int32) (x2 : Int32) (x4 : Int32) (s0 : Int32) (M : Mem) (Q : Option Value → Mem → Prop) : Prop :=
  (s0 = 0 → DX11_goThrough_250 h x0 x1 s0 x4 M Q) ∧
  (¬ (s0 = 0) → ok M x0 13 ∧ ∃ b2 : Nat, mR M x0 66 = some b2 ∧ ok M b2 21 ∧ vp_in x2 (mL M b2) ∧ DX11_goThrough_250 h x0 x1 s0 (mAI M b2 (x2 : Int32).toNatClampNeg) M Q)
set_option maxRecDepth 20000 in
set_option maxHeartbeats 2000000 in
theorem VX11_goThrough_234 {h : Nat} {x0 : Nat} {x1 : Int32} {x2 : Int32} {x4 : Int32} {s0 : Int32} {M : Mem} {Q : Option Value → Mem → Prop} (H : DX11_goThrough_234 h x0 x1 x2 x4 s0 M Q) : T (h + 1) mdX11_goThrough 234 [(0, .ref x0), (1, .int x1), (2, .int x2), (4, .int x4)] [.int s0] M Q := by
  unfold DX11_goThrough_234 at H
  refine xt_istore_n (lv' := [(3, .int s0), (0, .ref x0), (1, .int x1), (2, .int x2), (4, .int x4)]) dX11_goThrough_234 rfl (by decide) rfl ?_
  refine xt_iload_n (j := 0) dX11_goThrough_235 rfl rfl ?_
  refine xt_if_eq (tgt := 248) dX11_goThrough_236 (by decide) (fun hc => ?_) (fun hc => ?_)
  · have H := H.1 hc
    refine xt_iload (j := 4) dX11_goThrough_248 rfl ?_
    exact xt_sub [1, 2, 0] rfl (VX11_goThrough_250 H)
  · have H := H.2 hc
    refine xt_aload_n (j := 1) dX11_goThrough_239 rfl rfl ?_
    obtain ⟨ho1, H⟩ := H
    obtain ⟨b2, hb, H⟩ := H
    refine xt_getR dX11_goThrough_240 (flX11_174 rfl) ft_13_66 ho1.1 ho1.2 hb ?_
    refine xt_iload_n (j := 3) dX11_goThrough_243 rfl rfl ?_
    obtain ⟨ho3, H⟩ := H
    obtain ⟨hi, H⟩ := H
    refine xt_iald dX11_goThrough_244 ho3.1 ho3.2 hi ?_
    refine xt_goto (tgt := 250) dX11_goThrough_245 (by decide) ?_
    exact xt_sub [1, 2, 0] rfl (VX11_goThrough_250 H)
def DX11_goThrough_219 (h : Nat) (x0 : Nat) (x1 : Int32) (x2 : Int32) (x4 : Int32) (M : Mem) (Q : Option Value → Mem → Prop) : Prop :=
  ok M x0 13 ∧ ∃ b2 : Nat, mR M x0 66 = some b2 ∧ ok M b2 21 ∧ vp_in x2 (mL M b2) ∧ ((mAI M b2 (x2 : Int32).toNatClampNeg) = (-1) → DX11_goThrough_234 h x0 x1 x2 x4 0 M Q) ∧
  (¬ ((mAI M b2 (x2 : Int32).toNatClampNeg) = (-1)) → DX11_goThrough_234 h x0 x1 x2 x4 1 M Q)
set_option maxRecDepth 20000 in
set_option maxHeartbeats 2000000 in
theorem VX11_goThrough_219 {h : Nat} {x0 : Nat} {x1 : Int32} {x2 : Int32} {x4 : Int32} {M : Mem} {Q : Option Value → Mem → Prop} (H : DX11_goThrough_219 h x0 x1 x2 x4 M Q) : T (h + 1) mdX11_goThrough 219 [(0, .ref x0), (1, .int x1), (2, .int x2), (4, .int x4)] [] M Q := by
  unfold DX11_goThrough_219 at H
  refine xt_aload_n (j := 0) dX11_goThrough_219 rfl rfl ?_
  obtain ⟨ho1, H⟩ := H
  obtain ⟨b2, hb, H⟩ := H
  refine xt_getR dX11_goThrough_220 (flX11_174 rfl) ft_13_66 ho1.1 ho1.2 hb ?_
  refine xt_iload_n (j := 2) dX11_goThrough_223 rfl rfl ?_
  obtain ⟨ho3, H⟩ := H
  obtain ⟨hi, H⟩ := H
  refine xt_iald dX11_goThrough_224 ho3.1 ho3.2 hi ?_
  refine xt_iconst (v := -1) dX11_goThrough_225 (by decide) ?_
  refine xt_icmp_eq (tgt := 233) dX11_goThrough_226 (by decide) (fun hc => ?_) (fun hc => ?_)
  · have H := H.1 hc
    refine xt_iconst (v := 0) dX11_goThrough_233 (by decide) ?_
    exact xt_sub [0, 1, 2, 3] rfl (VX11_goThrough_234 H)
  · have H := H.2 hc
    refine xt_iconst (v := 1) dX11_goThrough_229 (by decide) ?_
    refine xt_goto (tgt := 234) dX11_goThrough_230 (by decide) ?_
    exact xt_sub [0, 1, 2, 3] rfl (VX11_goThrough_234 H)
def DX11_goThrough_172 (h : Nat) (x0 : Nat) (x1 : Int32) (x2 : Int32) (M : Mem) (Q : Option Value → Mem → Prop) : Prop :=
  ok M x0 13 ∧ ∃ b2 : Nat, mR M x0 71 = some b2 ∧ E h mdX11_codes [.ref x0, .int x2] M (fun r M3 => mE M M3 → ∃ r4 : Int32, r = some (.int r4) ∧ ok M3 b2 21 ∧ vp_in x2 (mL M3 b2) ∧ ∀ M6 : Mem, M6 = wAI M3 b2 (x2 : Int32).toNatClampNeg r4 →
  E h mdX11_step [.ref x0, .int x2, .int 1] M6 (fun r M7 => mE M6 M7 → r = none ∧ ∃ b8 : Nat, mR M7 x0 68 = some b8 ∧ ok M7 b8 21 ∧ vp_in x2 (mL M7 b8) ∧ ((mAI M7 b8 (x2 : Int32).toNatClampNeg) = (-1) → DX11_goThrough_219 h x0 x1 x2 (mAI M7 b8 (x2 : Int32).toNatClampNeg) M7 Q) ∧
  (¬ ((mAI M7 b8 (x2 : Int32).toNatClampNeg) = (-1)) → ∃ b10 : Nat, mR M7 x0 69 = some b10 ∧ ok M7 b10 21 ∧ vp_in (mAI M7 b8 (x2 : Int32).toNatClampNeg) (mL M7 b10) ∧ ∃ b12 : Nat, mR M7 x0 69 = some b12 ∧ ok M7 b12 21 ∧ vp_in x2 (mL M7 b12) ∧ vp_in (mAI M7 b8 (x2 : Int32).toNatClampNeg) (mL M7 b10) ∧ ∀ M14 : Mem, M14 = wAI M7 b10 (mAI M7 b8 (x2 : Int32).toNatClampNeg : Int32).toNatClampNeg ((mAI M7 b10 (mAI M7 b8 (x2 : Int32).toNatClampNeg : Int32).toNatClampNeg) ||| (mAI M7 b12 (x2 : Int32).toNatClampNeg)) →
  DX11_goThrough_219 h x0 x1 x2 (mAI M7 b8 (x2 : Int32).toNatClampNeg) M14 Q)))
set_option maxRecDepth 20000 in
set_option maxHeartbeats 2000000 in
theorem VX11_goThrough_172 {h : Nat} {x0 : Nat} {x1 : Int32} {x2 : Int32} {M : Mem} {Q : Option Value → Mem → Prop} (H : DX11_goThrough_172 h x0 x1 x2 M Q) : T (h + 1) mdX11_goThrough 172 [(0, .ref x0), (1, .int x1), (2, .int x2)] [] M Q := by
  unfold DX11_goThrough_172 at H
  refine xt_aload_n (j := 0) dX11_goThrough_172 rfl rfl ?_
  obtain ⟨ho1, H⟩ := H
  obtain ⟨b2, hb, H⟩ := H
  refine xt_getR dX11_goThrough_173 (flX11_189 rfl) ft_13_71 ho1.1 ho1.2 hb ?_
  refine xt_iload_n (j := 2) dX11_goThrough_176 rfl rfl ?_
  refine xt_aload_n (j := 0) dX11_goThrough_177 rfl rfl ?_
  refine xt_iload_n (j := 2) dX11_goThrough_178 rfl rfl ?_
  refine xt_callV (h2 := h) (as := [.int x2]) (st := [.int x2, .ref b2]) dX11_goThrough_179 (mlX11_694 rfl) rfl ho1.1 ⟨by rw [ho1.2]; rfl, by rw [ho1.2]; decide⟩ (by first | decide | (simp [Value.category]; done)) (Nat.le_refl _) H (fun r M3 HH hE => ?_)
  obtain ⟨r4, hr, H⟩ := HH hE
  subst hr
  have ho1 := ok_E ho1 hE
  show T _ _ _ _ [.int r4, .int x2, .ref b2] _ _
  obtain ⟨ho5, H⟩ := H
  obtain ⟨hi, H⟩ := H
  obtain ⟨M6, eM6⟩ : ∃ z, z = wAI M3 b2 (x2 : Int32).toNatClampNeg r4 := ⟨_, rfl⟩
  have H := H _ eM6
  refine xt_iast dX11_goThrough_182 ho5.1 ho5.2 hi ?_
  have ho1 : ok M6 x0 13 := by rw [eM6]; exact ho1
  rw [← eM6]
  refine xt_aload_n (j := 0) dX11_goThrough_183 rfl rfl ?_
  refine xt_iload_n (j := 2) dX11_goThrough_184 rfl rfl ?_
  refine xt_iconst (v := 1) dX11_goThrough_185 (by decide) ?_
  refine xt_callV (h2 := h) (as := [.int x2, .int 1]) (st := []) dX11_goThrough_186 (mlX11_688 rfl) rfl ho1.1 ⟨by rw [ho1.2]; rfl, by rw [ho1.2]; decide⟩ (by first | decide | (simp [Value.category]; done)) (Nat.le_refl _) H (fun r M7 HH hE => ?_)
  obtain ⟨hr, H⟩ := HH hE
  subst hr
  have ho1 := ok_E ho1 hE
  show T _ _ _ _ [] _ _
  refine xt_aload_n (j := 0) dX11_goThrough_189 rfl rfl ?_
  obtain ⟨b8, hb, H⟩ := H
  refine xt_getR dX11_goThrough_190 (flX11_180 rfl) ft_13_68 ho1.1 ho1.2 hb ?_
  refine xt_iload_n (j := 2) dX11_goThrough_193 rfl rfl ?_
  obtain ⟨ho9, H⟩ := H
  obtain ⟨hi, H⟩ := H
  refine xt_iald dX11_goThrough_194 ho9.1 ho9.2 hi ?_
  refine xt_istore (lv' := [(4, .int (mAI M7 b8 (x2 : Int32).toNatClampNeg)), (0, .ref x0), (1, .int x1), (2, .int x2)]) dX11_goThrough_195 (by decide) rfl ?_
  refine xt_iload (j := 0) dX11_goThrough_197 rfl ?_
  refine xt_iconst (v := -1) dX11_goThrough_199 (by decide) ?_
  refine xt_icmp_eq (tgt := 219) dX11_goThrough_200 (by decide) (fun hc => ?_) (fun hc => ?_)
  · have H := H.1 hc
    exact xt_sub [1, 2, 3, 0] rfl (VX11_goThrough_219 H)
  · have H := H.2 hc
    refine xt_aload_n (j := 1) dX11_goThrough_203 rfl rfl ?_
    obtain ⟨b10, hb, H⟩ := H
    refine xt_getR dX11_goThrough_204 (flX11_183 rfl) ft_13_69 ho1.1 ho1.2 hb ?_
    refine xt_iload (j := 0) dX11_goThrough_207 rfl ?_
    refine xt_dup2 dX11_goThrough_209 rfl rfl ?_
    obtain ⟨ho11, H⟩ := H
    obtain ⟨hi, H⟩ := H
    refine xt_iald dX11_goThrough_210 ho11.1 ho11.2 hi ?_
    refine xt_aload_n (j := 1) dX11_goThrough_211 rfl rfl ?_
    obtain ⟨b12, hb, H⟩ := H
    refine xt_getR dX11_goThrough_212 (flX11_183 rfl) ft_13_69 ho1.1 ho1.2 hb ?_
    refine xt_iload_n (j := 3) dX11_goThrough_215 rfl rfl ?_
    obtain ⟨ho13, H⟩ := H
    obtain ⟨hi, H⟩ := H
    refine xt_iald dX11_goThrough_216 ho13.1 ho13.2 hi ?_
    refine xt_ior dX11_goThrough_217 ?_
    obtain ⟨hi, H⟩ := H
    obtain ⟨M14, eM14⟩ : ∃ z, z = wAI M7 b10 (mAI M7 b8 (x2 : Int32).toNatClampNeg : Int32).toNatClampNeg ((mAI M7 b10 (mAI M7 b8 (x2 : Int32).toNatClampNeg : Int32).toNatClampNeg) ||| (mAI M7 b12 (x2 : Int32).toNatClampNeg)) := ⟨_, rfl⟩
    have H := H _ eM14
    refine xt_iast dX11_goThrough_218 ho11.1 ho11.2 hi ?_
    have ho1 : ok M14 x0 13 := by rw [eM14]; exact ho1
    rw [← eM14]
    exact xt_sub [1, 2, 3, 0] rfl (VX11_goThrough_219 H)
def DX11_goThrough_148 (h : Nat) (x0 : Nat) (x1 : Int32) (x2 : Int32) (x3 : Int32) (M : Mem) (Q : Option Value → Mem → Prop) : Prop :=
  (x3 = 0 → DX11_goThrough_172 h x0 x1 x2 M Q) ∧
  (¬ (x3 = 0) → ok M x0 13 ∧ ∃ b2 : Nat, mR M x0 64 = some b2 ∧ ok M b2 21 ∧ vp_in x2 (mL M b2) ∧ ((mAI M b2 (x2 : Int32).toNatClampNeg) = (-1) → DX11_goThrough_172 h x0 x1 x2 M Q) ∧
  (¬ ((mAI M b2 (x2 : Int32).toNatClampNeg) = (-1)) → ∃ b4 : Nat, mR M x0 64 = some b4 ∧ ok M b4 21 ∧ vp_in x2 (mL M b4) ∧ T (h + 1) mdX11_goThrough 34 [(0, .ref x0), (1, .int x1), (2, .int (mAI M b4 (x2 : Int32).toNatClampNeg)), (3, .int x3)] [] M Q))
set_option maxRecDepth 20000 in
set_option maxHeartbeats 2000000 in
theorem VX11_goThrough_148 {h : Nat} {x0 : Nat} {x1 : Int32} {x2 : Int32} {x3 : Int32} {M : Mem} {Q : Option Value → Mem → Prop} (H : DX11_goThrough_148 h x0 x1 x2 x3 M Q) : T (h + 1) mdX11_goThrough 148 [(0, .ref x0), (1, .int x1), (2, .int x2), (3, .int x3)] [] M Q := by
  unfold DX11_goThrough_148 at H
  refine xt_iload_n (j := 3) dX11_goThrough_148 rfl rfl ?_
  refine xt_if_eq (tgt := 172) dX11_goThrough_149 (by decide) (fun hc => ?_) (fun hc => ?_)
  · have H := H.1 hc
    exact xt_sub [0, 1, 2] rfl (VX11_goThrough_172 H)
  · have H := H.2 hc
    refine xt_aload_n (j := 0) dX11_goThrough_152 rfl rfl ?_
    obtain ⟨ho1, H⟩ := H
    obtain ⟨b2, hb, H⟩ := H
    refine xt_getR dX11_goThrough_153 (flX11_168 rfl) ft_13_64 ho1.1 ho1.2 hb ?_
    refine xt_iload_n (j := 2) dX11_goThrough_156 rfl rfl ?_
    obtain ⟨ho3, H⟩ := H
    obtain ⟨hi, H⟩ := H
    refine xt_iald dX11_goThrough_157 ho3.1 ho3.2 hi ?_
    refine xt_iconst (v := -1) dX11_goThrough_158 (by decide) ?_
    refine xt_icmp_eq (tgt := 172) dX11_goThrough_159 (by decide) (fun hc => ?_) (fun hc => ?_)
    · have H := H.1 hc
      exact xt_sub [0, 1, 2] rfl (VX11_goThrough_172 H)
    · have H := H.2 hc
      refine xt_aload_n (j := 0) dX11_goThrough_162 rfl rfl ?_
      obtain ⟨b4, hb, H⟩ := H
      refine xt_getR dX11_goThrough_163 (flX11_168 rfl) ft_13_64 ho1.1 ho1.2 hb ?_
      refine xt_iload_n (j := 2) dX11_goThrough_166 rfl rfl ?_
      obtain ⟨ho5, H⟩ := H
      obtain ⟨hi, H⟩ := H
      refine xt_iald dX11_goThrough_167 ho5.1 ho5.2 hi ?_
      refine xt_istore_n (lv' := [(2, .int (mAI M b4 (x2 : Int32).toNatClampNeg)), (0, .ref x0), (1, .int x1), (3, .int x3)]) dX11_goThrough_168 rfl (by decide) rfl ?_
      refine xt_goto (tgt := 34) dX11_goThrough_169 (by decide) ?_
      exact xt_sub (lv' := [(0, .ref x0), (1, .int x1), (2, .int (mAI M b4 (x2 : Int32).toNatClampNeg)), (3, .int x3)]) [1, 2, 0, 3] rfl H
def DX11_goThrough_147 (h : Nat) (x0 : Nat) (x1 : Int32) (x2 : Int32) (x3 : Int32) (s0 : Nat) (s1 : Int32) (s2 : Int32) (M : Mem) (Q : Option Value → Mem → Prop) : Prop :=
  ok M s0 21 ∧ vp_in s1 (mL M s0) ∧ ∀ M2 : Mem, M2 = wAI M s0 (s1 : Int32).toNatClampNeg s2 →
  DX11_goThrough_148 h x0 x1 x2 x3 M2 Q
set_option maxRecDepth 20000 in
set_option maxHeartbeats 2000000 in
theorem VX11_goThrough_147 {h : Nat} {x0 : Nat} {x1 : Int32} {x2 : Int32} {x3 : Int32} {s0 : Nat} {s1 : Int32} {s2 : Int32} {M : Mem} {Q : Option Value → Mem → Prop} (H : DX11_goThrough_147 h x0 x1 x2 x3 s0 s1 s2 M Q) : T (h + 1) mdX11_goThrough 147 [(0, .ref x0), (1, .int x1), (2, .int x2), (3, .int x3)] [.int s2, .int s1, .ref s0] M Q := by
  unfold DX11_goThrough_147 at H
  obtain ⟨ho1, H⟩ := H
  obtain ⟨hi, H⟩ := H
  obtain ⟨M2, eM2⟩ : ∃ z, z = wAI M s0 (s1 : Int32).toNatClampNeg s2 := ⟨_, rfl⟩
  have H := H _ eM2
  refine xt_iast dX11_goThrough_147 ho1.1 ho1.2 hi ?_
  rw [← eM2]
  exact xt_sub [0, 1, 2, 3] rfl (VX11_goThrough_148 H)
def DX11_goThrough_78 (h : Nat) (x0 : Nat) (x1 : Int32) (x2 : Int32) (x3 : Int32) (M : Mem) (Q : Option Value → Mem → Prop) : Prop :=
  ok M x0 13 ∧ ∃ b2 : Nat, mR M x0 62 = some b2 ∧ ok M b2 21 ∧ vp_in x2 (mL M b2) ∧ (¬ (mAI M b2 (x2 : Int32).toNatClampNeg) = 3 → DX11_goThrough_148 h x0 x1 x2 x3 M Q) ∧
  ((mAI M b2 (x2 : Int32).toNatClampNeg) = 3 → ∃ b4 : Nat, mR M x0 70 = some b4 ∧ E h mdX11_codeOf [.ref x0, .int x2] M (fun r M5 => mE M M5 → ∃ r6 : Int32, r = some (.int r6) ∧ ok M5 b4 21 ∧ vp_in x2 (mL M5 b4) ∧ ∀ M8 : Mem, M8 = wAI M5 b4 (x2 : Int32).toNatClampNeg r6 →
  ∃ b9 : Nat, mR M8 x0 74 = some b9 ∧ ∃ b10 : Nat, mR M8 x0 70 = some b10 ∧ ok M8 b10 21 ∧ vp_in x2 (mL M8 b10) ∧ ∃ b12 : Nat, mR M8 x0 74 = some b12 ∧ ok M8 b12 21 ∧ vp_in (mI M8 x0 19) (mL M8 b12) ∧ (((mAI M8 b10 (x2 : Int32).toNatClampNeg) + 1) ≤ (mAI M8 b12 (mI M8 x0 19 : Int32).toNatClampNeg) → ∃ b14 : Nat, mR M8 x0 74 = some b14 ∧ ok M8 b14 21 ∧ vp_in (mI M8 x0 19) (mL M8 b14) ∧ DX11_goThrough_147 h x0 x1 x2 x3 b9 (mI M8 x0 19) (mAI M8 b14 (mI M8 x0 19 : Int32).toNatClampNeg) M8 Q) ∧
  (¬ (((mAI M8 b10 (x2 : Int32).toNatClampNeg) + 1) ≤ (mAI M8 b12 (mI M8 x0 19 : Int32).toNatClampNeg)) → ∃ b16 : Nat, mR M8 x0 70 = some b16 ∧ ok M8 b16 21 ∧ vp_in x2 (mL M8 b16) ∧ DX11_goThrough_147 h x0 x1 x2 x3 b9 (mI M8 x0 19) ((mAI M8 b16 (x2 : Int32).toNatClampNeg) + 1) M8 Q)))
set_option maxRecDepth 20000 in
set_option maxHeartbeats 2000000 in
theorem VX11_goThrough_78 {h : Nat} {x0 : Nat} {x1 : Int32} {x2 : Int32} {x3 : Int32} {M : Mem} {Q : Option Value → Mem → Prop} (H : DX11_goThrough_78 h x0 x1 x2 x3 M Q) : T (h + 1) mdX11_goThrough 78 [(0, .ref x0), (1, .int x1), (2, .int x2), (3, .int x3)] [] M Q := by
  unfold DX11_goThrough_78 at H
  refine xt_aload_n (j := 0) dX11_goThrough_78 rfl rfl ?_
  obtain ⟨ho1, H⟩ := H
  obtain ⟨b2, hb, H⟩ := H
  refine xt_getR dX11_goThrough_79 (flX11_162 rfl) ft_13_62 ho1.1 ho1.2 hb ?_
  refine xt_iload_n (j := 2) dX11_goThrough_82 rfl rfl ?_
  obtain ⟨ho3, H⟩ := H
  obtain ⟨hi, H⟩ := H
  refine xt_iald dX11_goThrough_83 ho3.1 ho3.2 hi ?_
  refine xt_iconst (v := 3) dX11_goThrough_84 (by decide) ?_
  refine xt_icmp_ne (tgt := 148) dX11_goThrough_85 (by decide) (fun hc => ?_) (fun hc => ?_)
  · have H := H.1 hc
    exact xt_sub [0, 1, 2, 3] rfl (VX11_goThrough_148 H)
  · have H := H.2 hc
    refine xt_aload_n (j := 0) dX11_goThrough_88 rfl rfl ?_
    obtain ⟨b4, hb, H⟩ := H
    refine xt_getR dX11_goThrough_89 (flX11_186 rfl) ft_13_70 ho1.1 ho1.2 hb ?_
    refine xt_iload_n (j := 2) dX11_goThrough_92 rfl rfl ?_
    refine xt_aload_n (j := 0) dX11_goThrough_93 rfl rfl ?_
    refine xt_iload_n (j := 2) dX11_goThrough_94 rfl rfl ?_
    refine xt_callV (h2 := h) (as := [.int x2]) (st := [.int x2, .ref b4]) dX11_goThrough_95 (mlX11_691 rfl) rfl ho1.1 ⟨by rw [ho1.2]; rfl, by rw [ho1.2]; decide⟩ (by first | decide | (simp [Value.category]; done)) (Nat.le_refl _) H (fun r M5 HH hE => ?_)
    obtain ⟨r6, hr, H⟩ := HH hE
    subst hr
    have ho1 := ok_E ho1 hE
    show T _ _ _ _ [.int r6, .int x2, .ref b4] _ _
    obtain ⟨ho7, H⟩ := H
    obtain ⟨hi, H⟩ := H
    obtain ⟨M8, eM8⟩ : ∃ z, z = wAI M5 b4 (x2 : Int32).toNatClampNeg r6 := ⟨_, rfl⟩
    have H := H _ eM8
    refine xt_iast dX11_goThrough_98 ho7.1 ho7.2 hi ?_
    have ho1 : ok M8 x0 13 := by rw [eM8]; exact ho1
    rw [← eM8]
    refine xt_aload_n (j := 0) dX11_goThrough_99 rfl rfl ?_
    obtain ⟨b9, hb, H⟩ := H
    refine xt_getR dX11_goThrough_100 (flX11_198 rfl) ft_13_74 ho1.1 ho1.2 hb ?_
    refine xt_aload_n (j := 0) dX11_goThrough_103 rfl rfl ?_
    refine xt_getI dX11_goThrough_104 (flX11_450 rfl) ft_13_19 ho1.1 ho1.2 ?_
    refine xt_aload_n (j := 0) dX11_goThrough_107 rfl rfl ?_
    obtain ⟨b10, hb, H⟩ := H
    refine xt_getR dX11_goThrough_108 (flX11_186 rfl) ft_13_70 ho1.1 ho1.2 hb ?_
    refine xt_iload_n (j := 2) dX11_goThrough_111 rfl rfl ?_
    obtain ⟨ho11, H⟩ := H
    obtain ⟨hi, H⟩ := H
    refine xt_iald dX11_goThrough_112 ho11.1 ho11.2 hi ?_
    refine xt_iconst (v := 1) dX11_goThrough_113 (by decide) ?_
    refine xt_iadd dX11_goThrough_114 ?_
    refine xt_aload_n (j := 0) dX11_goThrough_115 rfl rfl ?_
    obtain ⟨b12, hb, H⟩ := H
    refine xt_getR dX11_goThrough_116 (flX11_198 rfl) ft_13_74 ho1.1 ho1.2 hb ?_
    refine xt_aload_n (j := 0) dX11_goThrough_119 rfl rfl ?_
    refine xt_getI dX11_goThrough_120 (flX11_450 rfl) ft_13_19 ho1.1 ho1.2 ?_
    obtain ⟨ho13, H⟩ := H
    obtain ⟨hi, H⟩ := H
    refine xt_iald dX11_goThrough_123 ho13.1 ho13.2 hi ?_
    refine xt_icmp_le (tgt := 138) dX11_goThrough_124 (by decide) (fun hc => ?_) (fun hc => ?_)
    · have H := H.1 hc
      refine xt_aload_n (j := 0) dX11_goThrough_138 rfl rfl ?_
      obtain ⟨b14, hb, H⟩ := H
      refine xt_getR dX11_goThrough_139 (flX11_198 rfl) ft_13_74 ho1.1 ho1.2 hb ?_
      refine xt_aload_n (j := 0) dX11_goThrough_142 rfl rfl ?_
      refine xt_getI dX11_goThrough_143 (flX11_450 rfl) ft_13_19 ho1.1 ho1.2 ?_
      obtain ⟨ho15, H⟩ := H
      obtain ⟨hi, H⟩ := H
      refine xt_iald dX11_goThrough_146 ho15.1 ho15.2 hi ?_
      exact xt_sub [0, 1, 2, 3] rfl (VX11_goThrough_147 H)
    · have H := H.2 hc
      refine xt_aload_n (j := 0) dX11_goThrough_127 rfl rfl ?_
      obtain ⟨b16, hb, H⟩ := H
      refine xt_getR dX11_goThrough_128 (flX11_186 rfl) ft_13_70 ho1.1 ho1.2 hb ?_
      refine xt_iload_n (j := 2) dX11_goThrough_131 rfl rfl ?_
      obtain ⟨ho17, H⟩ := H
      obtain ⟨hi, H⟩ := H
      refine xt_iald dX11_goThrough_132 ho17.1 ho17.2 hi ?_
      refine xt_iconst (v := 1) dX11_goThrough_133 (by decide) ?_
      refine xt_iadd dX11_goThrough_134 ?_
      refine xt_goto (tgt := 147) dX11_goThrough_135 (by decide) ?_
      exact xt_sub [0, 1, 2, 3] rfl (VX11_goThrough_147 H)
def DX11_goThrough_34 (h : Nat) (x0 : Nat) (x1 : Int32) (x2 : Int32) (x3 : Int32) (M : Mem) (Q : Option Value → Mem → Prop) : Prop :=
  (x2 = (-1) → Q none M) ∧
  (¬ (x2 = (-1)) → (x3 = 0 → DX11_goThrough_148 h x0 x1 x2 x3 M Q) ∧
  (¬ (x3 = 0) → ok M x0 13 ∧ E h mdX11_step [.ref x0, .int x2, .int 0] M (fun r M2 => mE M M2 → r = none ∧ ∃ b3 : Nat, mR M2 x0 62 = some b3 ∧ ok M2 b3 21 ∧ vp_in x2 (mL M2 b3) ∧ (¬ (mAI M2 b3 (x2 : Int32).toNatClampNeg) = 2 → DX11_goThrough_78 h x0 x1 x2 x3 M2 Q) ∧
  ((mAI M2 b3 (x2 : Int32).toNatClampNeg) = 2 → ∃ b5 : Nat, mR M2 x0 70 = some b5 ∧ ok M2 b5 21 ∧ vp_in x2 (mL M2 b5) ∧ ∀ M7 : Mem, M7 = wAI M2 b5 (x2 : Int32).toNatClampNeg x1 →
  ∃ b8 : Nat, mR M7 x0 69 = some b8 ∧ ok M7 b8 21 ∧ vp_in x2 (mL M7 b8) ∧ ∀ M10 : Mem, M10 = wAI M7 b8 (x2 : Int32).toNatClampNeg ((1 : Int32) <<< (x1 &&& 31)) →
  DX11_goThrough_78 h x0 (x1 + 1) x2 x3 M10 Q))))
set_option maxRecDepth 20000 in
set_option maxHeartbeats 2000000 in
theorem VX11_goThrough_34 {h : Nat} {x0 : Nat} {x1 : Int32} {x2 : Int32} {x3 : Int32} {M : Mem} {Q : Option Value → Mem → Prop} (H : DX11_goThrough_34 h x0 x1 x2 x3 M Q) : T (h + 1) mdX11_goThrough 34 [(0, .ref x0), (1, .int x1), (2, .int x2), (3, .int x3)] [] M Q := by
  unfold DX11_goThrough_34 at H
  refine xt_iload_n (j := 2) dX11_goThrough_34 rfl rfl ?_
  refine xt_iconst (v := -1) dX11_goThrough_35 (by decide) ?_
  refine xt_icmp_eq (tgt := 254) dX11_goThrough_36 (by decide) (fun hc => ?_) (fun hc => ?_)
  · have H := H.1 hc
    exact xt_return dX11_goThrough_254 rfl H
  · have H := H.2 hc
    refine xt_iload_n (j := 3) dX11_goThrough_39 rfl rfl ?_
    refine xt_if_eq (tgt := 148) dX11_goThrough_40 (by decide) (fun hc => ?_) (fun hc => ?_)
    · have H := H.1 hc
      exact xt_sub [0, 1, 2, 3] rfl (VX11_goThrough_148 H)
    · have H := H.2 hc
      refine xt_aload_n (j := 0) dX11_goThrough_43 rfl rfl ?_
      refine xt_iload_n (j := 2) dX11_goThrough_44 rfl rfl ?_
      refine xt_iconst (v := 0) dX11_goThrough_45 (by decide) ?_
      obtain ⟨ho1, H⟩ := H
      refine xt_callV (h2 := h) (as := [.int x2, .int 0]) (st := []) dX11_goThrough_46 (mlX11_688 rfl) rfl ho1.1 ⟨by rw [ho1.2]; rfl, by rw [ho1.2]; decide⟩ (by first | decide | (simp [Value.category]; done)) (Nat.le_refl _) H (fun r M2 HH hE => ?_)
      obtain ⟨hr, H⟩ := HH hE
      subst hr
      have ho1 := ok_E ho1 hE
      show T _ _ _ _ [] _ _
      refine xt_aload_n (j := 0) dX11_goThrough_49 rfl rfl ?_
      obtain ⟨b3, hb, H⟩ := H
      refine xt_getR dX11_goThrough_50 (flX11_162 rfl) ft_13_62 ho1.1 ho1.2 hb ?_
      refine xt_iload_n (j := 2) dX11_goThrough_53 rfl rfl ?_
      obtain ⟨ho4, H⟩ := H
      obtain ⟨hi, H⟩ := H
      refine xt_iald dX11_goThrough_54 ho4.1 ho4.2 hi ?_
      refine xt_iconst (v := 2) dX11_goThrough_55 (by decide) ?_
      refine xt_icmp_ne (tgt := 78) dX11_goThrough_56 (by decide) (fun hc => ?_) (fun hc => ?_)
      · have H := H.1 hc
        exact xt_sub [0, 1, 2, 3] rfl (VX11_goThrough_78 H)
      · have H := H.2 hc
        refine xt_aload_n (j := 0) dX11_goThrough_59 rfl rfl ?_
        obtain ⟨b5, hb, H⟩ := H
        refine xt_getR dX11_goThrough_60 (flX11_186 rfl) ft_13_70 ho1.1 ho1.2 hb ?_
        refine xt_iload_n (j := 2) dX11_goThrough_63 rfl rfl ?_
        refine xt_iload_n (j := 1) dX11_goThrough_64 rfl rfl ?_
        obtain ⟨ho6, H⟩ := H
        obtain ⟨hi, H⟩ := H
        obtain ⟨M7, eM7⟩ : ∃ z, z = wAI M2 b5 (x2 : Int32).toNatClampNeg x1 := ⟨_, rfl⟩
        have H := H _ eM7
        refine xt_iast dX11_goThrough_65 ho6.1 ho6.2 hi ?_
        have ho1 : ok M7 x0 13 := by rw [eM7]; exact ho1
        rw [← eM7]
        refine xt_aload_n (j := 0) dX11_goThrough_66 rfl rfl ?_
        obtain ⟨b8, hb, H⟩ := H
        refine xt_getR dX11_goThrough_67 (flX11_183 rfl) ft_13_69 ho1.1 ho1.2 hb ?_
        refine xt_iload_n (j := 2) dX11_goThrough_70 rfl rfl ?_
        refine xt_iconst (v := 1) dX11_goThrough_71 (by decide) ?_
        refine xt_iload_n (j := 1) dX11_goThrough_72 rfl rfl ?_
        refine xt_ishl dX11_goThrough_73 ?_
        obtain ⟨ho9, H⟩ := H
        obtain ⟨hi, H⟩ := H
        obtain ⟨M10, eM10⟩ : ∃ z, z = wAI M7 b8 (x2 : Int32).toNatClampNeg ((1 : Int32) <<< (x1 &&& 31)) := ⟨_, rfl⟩
        have H := H _ eM10
        refine xt_iast dX11_goThrough_74 ho9.1 ho9.2 hi ?_
        have ho1 : ok M10 x0 13 := by rw [eM10]; exact ho1
        rw [← eM10]
        refine xt_iinc (j := 1) (v := x1 + 1) (lv' := [(1, .int (x1 + 1)), (0, .ref x0), (2, .int x2), (3, .int x3)]) dX11_goThrough_75 rfl (by rfl) (by decide) rfl ?_
        exact xt_sub [1, 0, 2, 3] rfl (VX11_goThrough_78 H)
def DX11_goThrough_0 (h : Nat) (x0 : Nat) (M : Mem) (Q : Option Value → Mem → Prop) : Prop :=
  ok M x0 13 ∧ ∃ b2 : Nat, mR M x0 76 = some b2 ∧ ok M b2 21 ∧ vp_in (mI M x0 19) (mL M b2) ∧ ∀ M4 : Mem, M4 = wAI M b2 (mI M x0 19 : Int32).toNatClampNeg 0 →
  ∃ b5 : Nat, mR M4 x0 74 = some b5 ∧ ok M4 b5 21 ∧ vp_in (mI M4 x0 19) (mL M4 b5) ∧ ∀ M7 : Mem, M7 = wAI M4 b5 (mI M4 x0 19 : Int32).toNatClampNeg 3 →
  ∃ b8 : Nat, mR M7 x0 73 = some b8 ∧ ok M7 b8 21 ∧ vp_in (mI M7 x0 19) (mL M7 b8) ∧ T (h + 1) mdX11_goThrough 34 [(0, .ref x0), (1, .int 0), (2, .int (mAI M7 b8 (mI M7 x0 19 : Int32).toNatClampNeg)), (3, .int 1)] [] M7 Q
set_option maxRecDepth 20000 in
set_option maxHeartbeats 2000000 in
theorem VX11_goThrough_0 {h : Nat} {x0 : Nat} {M : Mem} {Q : Option Value → Mem → Prop} (H : DX11_goThrough_0 h x0 M Q) : T (h + 1) mdX11_goThrough 0 [(0, .ref x0)] [] M Q := by
  unfold DX11_goThrough_0 at H
  refine xt_aload_n (j := 0) dX11_goThrough_0 rfl rfl ?_
  obtain ⟨ho1, H⟩ := H
  obtain ⟨b2, hb, H⟩ := H
  refine xt_getR dX11_goThrough_1 (flX11_204 rfl) ft_13_76 ho1.1 ho1.2 hb ?_
  refine xt_aload_n (j := 0) dX11_goThrough_4 rfl rfl ?_
  refine xt_getI dX11_goThrough_5 (flX11_450 rfl) ft_13_19 ho1.1 ho1.2 ?_
  refine xt_iconst (v := 0) dX11_goThrough_8 (by decide) ?_
  obtain ⟨ho3, H⟩ := H
  obtain ⟨hi, H⟩ := H
  obtain ⟨M4, eM4⟩ : ∃ z, z = wAI M b2 (mI M x0 19 : Int32).toNatClampNeg 0 := ⟨_, rfl⟩
  have H := H _ eM4
  refine xt_iast dX11_goThrough_9 ho3.1 ho3.2 hi ?_
  have ho1 : ok M4 x0 13 := by rw [eM4]; exact ho1
  rw [← eM4]
  refine xt_aload_n (j := 0) dX11_goThrough_10 rfl rfl ?_
  obtain ⟨b5, hb, H⟩ := H
  refine xt_getR dX11_goThrough_11 (flX11_198 rfl) ft_13_74 ho1.1 ho1.2 hb ?_
  refine xt_aload_n (j := 0) dX11_goThrough_14 rfl rfl ?_
  refine xt_getI dX11_goThrough_15 (flX11_450 rfl) ft_13_19 ho1.1 ho1.2 ?_
  refine xt_iconst (v := 3) dX11_goThrough_18 (by decide) ?_
  obtain ⟨ho6, H⟩ := H
  obtain ⟨hi, H⟩ := H
  obtain ⟨M7, eM7⟩ : ∃ z, z = wAI M4 b5 (mI M4 x0 19 : Int32).toNatClampNeg 3 := ⟨_, rfl⟩
  have H := H _ eM7
  refine xt_iast dX11_goThrough_19 ho6.1 ho6.2 hi ?_
  have ho1 : ok M7 x0 13 := by rw [eM7]; exact ho1
  rw [← eM7]
  refine xt_iconst (v := 0) dX11_goThrough_20 (by decide) ?_
  refine xt_istore_n (lv' := [(1, .int 0), (0, .ref x0)]) dX11_goThrough_21 rfl (by decide) rfl ?_
  refine xt_aload_n (j := 1) dX11_goThrough_22 rfl rfl ?_
  obtain ⟨b8, hb, H⟩ := H
  refine xt_getR dX11_goThrough_23 (flX11_195 rfl) ft_13_73 ho1.1 ho1.2 hb ?_
  refine xt_aload_n (j := 1) dX11_goThrough_26 rfl rfl ?_
  refine xt_getI dX11_goThrough_27 (flX11_450 rfl) ft_13_19 ho1.1 ho1.2 ?_
  obtain ⟨ho9, H⟩ := H
  obtain ⟨hi, H⟩ := H
  refine xt_iald dX11_goThrough_30 ho9.1 ho9.2 hi ?_
  refine xt_istore_n (lv' := [(2, .int (mAI M7 b8 (mI M7 x0 19 : Int32).toNatClampNeg)), (1, .int 0), (0, .ref x0)]) dX11_goThrough_31 rfl (by decide) rfl ?_
  refine xt_iconst (v := 1) dX11_goThrough_32 (by decide) ?_
  refine xt_istore_n (lv' := [(3, .int 1), (2, .int (mAI M7 b8 (mI M7 x0 19 : Int32).toNatClampNeg)), (1, .int 0), (0, .ref x0)]) dX11_goThrough_33 rfl (by decide) rfl ?_
  exact xt_sub (lv' := [(0, .ref x0), (1, .int 0), (2, .int (mAI M7 b8 (mI M7 x0 19 : Int32).toNatClampNeg)), (3, .int 1)]) [3, 2, 1, 0] rfl H
theorem KX11_goThrough {h : Nat} {x0 : Nat} {M : Mem} {Q : Option Value → Mem → Prop} (H : DX11_goThrough_0 h x0 M Q) : E (h + 1) mdX11_goThrough [.ref x0] M Q := E.of (by decide) (Nat.le_of_ble_eq_true rfl) (fun _ _ _ => trivial) (VX11_goThrough_0 H)
