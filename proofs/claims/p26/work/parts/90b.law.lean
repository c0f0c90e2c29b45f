def DL_law_1023 (L : Nat) (xs : Nat → Int32) (h : Nat) (x1 : Nat) (x2 : Nat) (x3 : Int32) (M : Mem) (Q : Option Value → Mem → Prop) : Prop :=
  T (h + 1) (mdL L xs) 18 [(0, .ref (mBig + 0)), (1, .ref x1), (2, .ref x2), (3, .int (x3 + 6))] [] M Q
set_option maxRecDepth 20000 in
set_option maxHeartbeats 2000000 in
theorem VL_law_1023 {L : Nat} {xs : Nat → Int32} {h : Nat} {x1 : Nat} {x2 : Nat} {x3 : Int32} {M : Mem} {Q : Option Value → Mem → Prop} (H : DL_law_1023 L xs h x1 x2 x3 M Q) : T (h + 1) (mdL L xs) 1023 [(0, .ref (mBig + 0)), (1, .ref x1), (2, .ref x2), (3, .int x3)] [] M Q := by
  unfold DL_law_1023 at H
  refine xt_iinc (j := 3) (v := x3 + 6) (lv' := [(3, .int (x3 + 6)), (0, .ref (mBig + 0)), (1, .ref x1), (2, .ref x2)]) dL_law_1023 rfl (by rfl) (by show (_ : Nat) < 4; decide) rfl ?_
  refine xt_goto (tgt := 18) dL_law_1026 (by decide) ?_
  exact xt_sub (lv' := [(0, .ref (mBig + 0)), (1, .ref x1), (2, .ref x2), (3, .int (x3 + 6))]) [1, 2, 3, 0] rfl H
def DL_law_414 (L : Nat) (xs : Nat → Int32) (h : Nat) (x1 : Nat) (x2 : Nat) (x3 : Int32) (s0 : Nat) (s1 : Int32) (s2 : Int32) (s3 : Int32) (M : Mem) (Q : Option Value → Mem → Prop) : Prop :=
  vp_in (x3 + 4) L ∧ ok M s0 13 ∧ E h mdX11_give [.ref s0, .int s1, .int s2, .int s3, .int (xs (x3 + 4 : Int32).toNatClampNeg)] M (fun r M2 => mE M M2 → ∃ r3 : Int32, r = some (.int r3) ∧ DL_law_1023 L xs h x1 x2 x3 M2 Q)
set_option maxRecDepth 20000 in
set_option maxHeartbeats 2000000 in
theorem VL_law_414 {L : Nat} {xs : Nat → Int32} {h : Nat} {x1 : Nat} {x2 : Nat} {x3 : Int32} {s0 : Nat} {s1 : Int32} {s2 : Int32} {s3 : Int32} {M : Mem} {Q : Option Value → Mem → Prop} (H : DL_law_414 L xs h x1 x2 x3 s0 s1 s2 s3 M Q) : T (h + 1) (mdL L xs) 414 [(0, .ref (mBig + 0)), (1, .ref x1), (2, .ref x2), (3, .int x3)] [.int s3, .int s2, .int s1, .ref s0] M Q := by
  unfold DL_law_414 at H
  refine xt_aload_n (j := 0) dL_law_414 rfl rfl ?_
  refine xt_iload_n (j := 3) dL_law_415 rfl rfl ?_
  refine xt_iconst (v := 4) dL_law_416 (by decide) ?_
  refine xt_iadd dL_law_417 ?_
  obtain ⟨hi, H⟩ := H
  refine xt_sld dL_law_418 hi ?_
  obtain ⟨ho1, H⟩ := H
  refine xt_callV (h2 := h) (as := [.int s1, .int s2, .int s3, .int (xs (x3 + 4 : Int32).toNatClampNeg)]) (st := []) dL_law_419 (mlL_49 rfl) rfl ho1.1 ⟨by rw [ho1.2]; rfl, by rw [ho1.2]; decide⟩ (by first | decide | (simp [Value.category]; done)) (Nat.le_refl _) H (fun r M2 HH hE => ?_)
  obtain ⟨r3, hr, H⟩ := HH hE
  subst hr
  show T _ _ _ _ [.int r3] _ _
  refine xt_pop dL_law_422 rfl ?_
  refine xt_goto (tgt := 1023) dL_law_423 (by decide) ?_
  exact xt_sub [0, 1, 2, 3] rfl (VL_law_1023 H)
def DL_law_381 (L : Nat) (xs : Nat → Int32) (h : Nat) (x1 : Nat) (x2 : Nat) (x3 : Int32) (s0 : Nat) (s1 : Int32) (s2 : Int32) (s3 : Int32) (M : Mem) (Q : Option Value → Mem → Prop) : Prop :=
  vp_in (x3 + 4) L ∧ ok M s0 12 ∧ E h mdX10_give [.ref s0, .int s1, .int s2, .int s3, .int (xs (x3 + 4 : Int32).toNatClampNeg)] M (fun r M2 => mE M M2 → ∃ r3 : Int32, r = some (.int r3) ∧ vp_in (x3 + 1) L ∧ vp_in (x3 + 2) L ∧ vp_in (x3 + 3) L ∧ ((xs (x3 + 3 : Int32).toNatClampNeg) = 0 → DL_law_414 L xs h x1 x2 x3 x2 (xs (x3 + 1 : Int32).toNatClampNeg) (xs (x3 + 2 : Int32).toNatClampNeg) 0 M2 Q) ∧
  (¬ ((xs (x3 + 3 : Int32).toNatClampNeg) = 0) → DL_law_414 L xs h x1 x2 x3 x2 (xs (x3 + 1 : Int32).toNatClampNeg) (xs (x3 + 2 : Int32).toNatClampNeg) 1 M2 Q))
set_option maxRecDepth 20000 in
set_option maxHeartbeats 2000000 in
theorem VL_law_381 {L : Nat} {xs : Nat → Int32} {h : Nat} {x1 : Nat} {x2 : Nat} {x3 : Int32} {s0 : Nat} {s1 : Int32} {s2 : Int32} {s3 : Int32} {M : Mem} {Q : Option Value → Mem → Prop} (H : DL_law_381 L xs h x1 x2 x3 s0 s1 s2 s3 M Q) : T (h + 1) (mdL L xs) 381 [(0, .ref (mBig + 0)), (1, .ref x1), (2, .ref x2), (3, .int x3)] [.int s3, .int s2, .int s1, .ref s0] M Q := by
  unfold DL_law_381 at H
  refine xt_aload_n (j := 0) dL_law_381 rfl rfl ?_
  refine xt_iload_n (j := 3) dL_law_382 rfl rfl ?_
  refine xt_iconst (v := 4) dL_law_383 (by decide) ?_
  refine xt_iadd dL_law_384 ?_
  obtain ⟨hi, H⟩ := H
  refine xt_sld dL_law_385 hi ?_
  obtain ⟨ho1, H⟩ := H
  refine xt_callV (h2 := h) (as := [.int s1, .int s2, .int s3, .int (xs (x3 + 4 : Int32).toNatClampNeg)]) (st := []) dL_law_386 (mlL_45 rfl) rfl ho1.1 ⟨by rw [ho1.2]; rfl, by rw [ho1.2]; decide⟩ (by first | decide | (simp [Value.category]; done)) (Nat.le_refl _) H (fun r M2 HH hE => ?_)
  obtain ⟨r3, hr, H⟩ := HH hE
  subst hr
  show T _ _ _ _ [.int r3] _ _
  refine xt_pop dL_law_389 rfl ?_
  refine xt_aload_n (j := 2) dL_law_390 rfl rfl ?_
  refine xt_aload_n (j := 0) dL_law_391 rfl rfl ?_
  refine xt_iload_n (j := 3) dL_law_392 rfl rfl ?_
  refine xt_iconst (v := 1) dL_law_393 (by decide) ?_
  refine xt_iadd dL_law_394 ?_
  obtain ⟨hi, H⟩ := H
  refine xt_sld dL_law_395 hi ?_
  refine xt_aload_n (j := 0) dL_law_396 rfl rfl ?_
  refine xt_iload_n (j := 3) dL_law_397 rfl rfl ?_
  refine xt_iconst (v := 2) dL_law_398 (by decide) ?_
  refine xt_iadd dL_law_399 ?_
  obtain ⟨hi, H⟩ := H
  refine xt_sld dL_law_400 hi ?_
  refine xt_aload_n (j := 0) dL_law_401 rfl rfl ?_
  refine xt_iload_n (j := 3) dL_law_402 rfl rfl ?_
  refine xt_iconst (v := 3) dL_law_403 (by decide) ?_
  refine xt_iadd dL_law_404 ?_
  obtain ⟨hi, H⟩ := H
  refine xt_sld dL_law_405 hi ?_
  refine xt_if_eq (tgt := 413) dL_law_406 (by decide) (fun hc => ?_) (fun hc => ?_)
  · have H := H.1 hc
    refine xt_iconst (v := 0) dL_law_413 (by decide) ?_
    exact xt_sub [0, 1, 2, 3] rfl (VL_law_414 H)
  · have H := H.2 hc
    refine xt_iconst (v := 1) dL_law_409 (by decide) ?_
    refine xt_goto (tgt := 414) dL_law_410 (by decide) ?_
    exact xt_sub [0, 1, 2, 3] rfl (VL_law_414 H)
def DL_law_18 (L : Nat) (xs : Nat → Int32) (h : Nat) (x1 : Nat) (x2 : Nat) (x3 : Int32) (M : Mem) (Q : Option Value → Mem → Prop) : Prop :=
  (((Int32.ofNat L) - 6) < x3 → ((1 : Int32) = 0 ∨ (1 : Int32) = 1) ∧ Q (some (.int 1)) M) ∧
  (¬ (((Int32.ofNat L) - 6) < x3) → vp_in x3 L ∧ (((xs (x3 : Int32).toNatClampNeg) &&& 31) = 0 → vp_in (x3 + 1) L ∧ vp_in (x3 + 2) L ∧ vp_in (x3 + 3) L ∧ vp_in (x3 + 4) L ∧ vp_in (x3 + 5) L ∧ ok M x1 12 ∧ E h mdX10_feed [.ref x1, .int (xs (x3 + 1 : Int32).toNatClampNeg), .int (xs (x3 + 2 : Int32).toNatClampNeg), .int (xs (x3 + 3 : Int32).toNatClampNeg), .int (xs (x3 + 4 : Int32).toNatClampNeg), .int (xs (x3 + 5 : Int32).toNatClampNeg)] M (fun r M2 => mE M M2 → ∃ r3 : Int32, r = some (.int r3) ∧ vp_in (x3 + 1) L ∧ vp_in (x3 + 2) L ∧ vp_in (x3 + 3) L ∧ vp_in (x3 + 4) L ∧ vp_in (x3 + 5) L ∧ ok M2 x2 13 ∧ E h mdX11_feed [.ref x2, .int (xs (x3 + 1 : Int32).toNatClampNeg), .int (xs (x3 + 2 : Int32).toNatClampNeg), .int (xs (x3 + 3 : Int32).toNatClampNeg), .int (xs (x3 + 4 : Int32).toNatClampNeg), .int (xs (x3 + 5 : Int32).toNatClampNeg)] M2 (fun r M5 => mE M2 M5 → ∃ r6 : Int32, r = some (.int r6) ∧ DL_law_1023 L xs h x1 x2 x3 M5 Q))) ∧
  (((xs (x3 : Int32).toNatClampNeg) &&& 31) = 1 → vp_in (x3 + 1) L ∧ ok M x1 12 ∧ E h mdX10_end [.ref x1, .int (xs (x3 + 1 : Int32).toNatClampNeg)] M (fun r M8 => mE M M8 → ∃ r9 : Int32, r = some (.int r9) ∧ vp_in (x3 + 1) L ∧ ok M8 x2 13 ∧ E h mdX11_end [.ref x2, .int (xs (x3 + 1 : Int32).toNatClampNeg)] M8 (fun r M11 => mE M8 M11 → ∃ r12 : Int32, r = some (.int r12) ∧ DL_law_1023 L xs h x1 x2 x3 M11 Q))) ∧
  (((xs (x3 : Int32).toNatClampNeg) &&& 31) = 2 → ok M x1 12 ∧ E h mdX10_compile [.ref x1] M (fun r M14 => mE M M14 → ∃ r15 : Int32, r = some (.int r15) ∧ ok M14 x2 13 ∧ E h mdX11_compile [.ref x2] M14 (fun r M17 => mE M14 M17 → ∃ r18 : Int32, r = some (.int r18) ∧ DL_law_1023 L xs h x1 x2 x3 M17 Q))) ∧
  (((xs (x3 : Int32).toNatClampNeg) &&& 31) = 3 → ok M x1 12 ∧ E h mdX10_fault [.ref x1] M (fun r M20 => mE M M20 → ∃ r21 : Int32, r = some (.int r21) ∧ ok M20 x2 13 ∧ E h mdX11_fault [.ref x2] M20 (fun r M23 => mE M20 M23 → ∃ r24 : Int32, r = some (.int r24) ∧ DL_law_1023 L xs h x1 x2 x3 M23 Q))) ∧
  (((xs (x3 : Int32).toNatClampNeg) &&& 31) = 4 → vp_in (x3 + 1) L ∧ vp_in (x3 + 2) L ∧ ok M x1 12 ∧ E h mdX10_module [.ref x1, .int (xs (x3 + 1 : Int32).toNatClampNeg), .int (xs (x3 + 2 : Int32).toNatClampNeg)] M (fun r M26 => mE M M26 → ∃ r27 : Int32, r = some (.int r27) ∧ vp_in (x3 + 1) L ∧ vp_in (x3 + 2) L ∧ ok M26 x2 13 ∧ E h mdX11_module [.ref x2, .int (xs (x3 + 1 : Int32).toNatClampNeg), .int (xs (x3 + 2 : Int32).toNatClampNeg)] M26 (fun r M29 => mE M26 M29 → ∃ r30 : Int32, r = some (.int r30) ∧ DL_law_1023 L xs h x1 x2 x3 M29 Q))) ∧
  (((xs (x3 : Int32).toNatClampNeg) &&& 31) = 5 → vp_in (x3 + 1) L ∧ vp_in (x3 + 2) L ∧ ok M x1 12 ∧ E h mdX10_part [.ref x1, .int (xs (x3 + 1 : Int32).toNatClampNeg), .int (xs (x3 + 2 : Int32).toNatClampNeg)] M (fun r M32 => mE M M32 → ∃ r33 : Int32, r = some (.int r33) ∧ vp_in (x3 + 1) L ∧ vp_in (x3 + 2) L ∧ ok M32 x2 13 ∧ E h mdX11_part [.ref x2, .int (xs (x3 + 1 : Int32).toNatClampNeg), .int (xs (x3 + 2 : Int32).toNatClampNeg)] M32 (fun r M35 => mE M32 M35 → ∃ r36 : Int32, r = some (.int r36) ∧ DL_law_1023 L xs h x1 x2 x3 M35 Q))) ∧
  (((xs (x3 : Int32).toNatClampNeg) &&& 31) = 6 → vp_in (x3 + 1) L ∧ ok M x1 12 ∧ E h mdX10_governor [.ref x1, .int (xs (x3 + 1 : Int32).toNatClampNeg)] M (fun r M38 => mE M M38 → ∃ r39 : Int32, r = some (.int r39) ∧ vp_in (x3 + 1) L ∧ ok M38 x2 13 ∧ E h mdX11_governor [.ref x2, .int (xs (x3 + 1 : Int32).toNatClampNeg)] M38 (fun r M41 => mE M38 M41 → ∃ r42 : Int32, r = some (.int r42) ∧ DL_law_1023 L xs h x1 x2 x3 M41 Q))) ∧
  (((xs (x3 : Int32).toNatClampNeg) &&& 31) = 7 → vp_in (x3 + 1) L ∧ vp_in (x3 + 2) L ∧ vp_in (x3 + 3) L ∧ ((xs (x3 + 3 : Int32).toNatClampNeg) = 0 → DL_law_381 L xs h x1 x2 x3 x1 (xs (x3 + 1 : Int32).toNatClampNeg) (xs (x3 + 2 : Int32).toNatClampNeg) 0 M Q) ∧
  (¬ ((xs (x3 + 3 : Int32).toNatClampNeg) = 0) → DL_law_381 L xs h x1 x2 x3 x1 (xs (x3 + 1 : Int32).toNatClampNeg) (xs (x3 + 2 : Int32).toNatClampNeg) 1 M Q)) ∧
  (((xs (x3 : Int32).toNatClampNeg) &&& 31) = 8 → vp_in (x3 + 1) L ∧ ok M x1 12 ∧ E h mdX10_beat [.ref x1, .int (xs (x3 + 1 : Int32).toNatClampNeg)] M (fun r M44 => mE M M44 → ∃ r45 : Int32, r = some (.int r45) ∧ vp_in (x3 + 1) L ∧ ok M44 x2 13 ∧ E h mdX11_beat [.ref x2, .int (xs (x3 + 1 : Int32).toNatClampNeg)] M44 (fun r M47 => mE M44 M47 → ∃ r48 : Int32, r = some (.int r48) ∧ DL_law_1023 L xs h x1 x2 x3 M47 Q))) ∧
  (((xs (x3 : Int32).toNatClampNeg) &&& 31) = 9 → vp_in (x3 + 1) L ∧ vp_in (x3 + 2) L ∧ ok M x1 12 ∧ E h mdX10_present [.ref x1, .int (xs (x3 + 1 : Int32).toNatClampNeg), .int (xs (x3 + 2 : Int32).toNatClampNeg)] M (fun r M50 => mE M M50 → ∃ r51 : Int32, r = some (.int r51) ∧ vp_in (x3 + 1) L ∧ vp_in (x3 + 2) L ∧ ok M50 x2 13 ∧ E h mdX11_present [.ref x2, .int (xs (x3 + 1 : Int32).toNatClampNeg), .int (xs (x3 + 2 : Int32).toNatClampNeg)] M50 (fun r M53 => mE M50 M53 → ∃ r54 : Int32, r = some (.int r54) ∧ DL_law_1023 L xs h x1 x2 x3 M53 Q))) ∧
  (((xs (x3 : Int32).toNatClampNeg) &&& 31) = 10 → vp_in (x3 + 1) L ∧ vp_in (x3 + 2) L ∧ ok M x1 12 ∧ E h mdX10_value [.ref x1, .int (xs (x3 + 1 : Int32).toNatClampNeg), .int (xs (x3 + 2 : Int32).toNatClampNeg)] M (fun r M56 => mE M M56 → ∃ r57 : Int32, r = some (.int r57) ∧ vp_in (x3 + 1) L ∧ vp_in (x3 + 2) L ∧ ok M56 x2 13 ∧ E h mdX11_value [.ref x2, .int (xs (x3 + 1 : Int32).toNatClampNeg), .int (xs (x3 + 2 : Int32).toNatClampNeg)] M56 (fun r M59 => mE M56 M59 → ∃ r60 : Int32, r = some (.int r60) ∧ DL_law_1023 L xs h x1 x2 x3 M59 Q))) ∧
  (((xs (x3 : Int32).toNatClampNeg) &&& 31) = 11 → vp_in (x3 + 1) L ∧ vp_in (x3 + 2) L ∧ ok M x1 12 ∧ E h mdX10_variable [.ref x1, .int (xs (x3 + 1 : Int32).toNatClampNeg), .int (xs (x3 + 2 : Int32).toNatClampNeg)] M (fun r M62 => mE M M62 → ∃ r63 : Int32, r = some (.int r63) ∧ vp_in (x3 + 1) L ∧ vp_in (x3 + 2) L ∧ ok M62 x2 13 ∧ E h mdX11_variable [.ref x2, .int (xs (x3 + 1 : Int32).toNatClampNeg), .int (xs (x3 + 2 : Int32).toNatClampNeg)] M62 (fun r M65 => mE M62 M65 → ∃ r66 : Int32, r = some (.int r66) ∧ DL_law_1023 L xs h x1 x2 x3 M65 Q))) ∧
  (((xs (x3 : Int32).toNatClampNeg) &&& 31) = 12 → vp_in (x3 + 1) L ∧ vp_in (x3 + 2) L ∧ vp_in (x3 + 3) L ∧ ok M x1 12 ∧ E h mdX10_wire [.ref x1, .int (xs (x3 + 1 : Int32).toNatClampNeg), .int (xs (x3 + 2 : Int32).toNatClampNeg), .int (xs (x3 + 3 : Int32).toNatClampNeg)] M (fun r M68 => mE M M68 → ∃ r69 : Int32, r = some (.int r69) ∧ vp_in (x3 + 1) L ∧ vp_in (x3 + 2) L ∧ vp_in (x3 + 3) L ∧ ok M68 x2 13 ∧ E h mdX11_wire [.ref x2, .int (xs (x3 + 1 : Int32).toNatClampNeg), .int (xs (x3 + 2 : Int32).toNatClampNeg), .int (xs (x3 + 3 : Int32).toNatClampNeg)] M68 (fun r M71 => mE M68 M71 → ∃ r72 : Int32, r = some (.int r72) ∧ DL_law_1023 L xs h x1 x2 x3 M71 Q))) ∧
  (((xs (x3 : Int32).toNatClampNeg) &&& 31) = 13 → vp_in (x3 + 1) L ∧ vp_in (x3 + 2) L ∧ ok M x1 12 ∧ E h mdX10_told [.ref x1, .int (xs (x3 + 1 : Int32).toNatClampNeg), .int (xs (x3 + 2 : Int32).toNatClampNeg)] M (fun r M74 => mE M M74 → ∃ r75 : Int32, r = some (.int r75) ∧ vp_in (x3 + 1) L ∧ vp_in (x3 + 2) L ∧ ok M74 x2 13 ∧ E h mdX11_told [.ref x2, .int (xs (x3 + 1 : Int32).toNatClampNeg), .int (xs (x3 + 2 : Int32).toNatClampNeg)] M74 (fun r M77 => mE M74 M77 → ∃ r78 : Int32, r = some (.int r78) ∧ DL_law_1023 L xs h x1 x2 x3 M77 Q))) ∧
  (((xs (x3 : Int32).toNatClampNeg) &&& 31) = 14 → vp_in (x3 + 1) L ∧ vp_in (x3 + 2) L ∧ ok M x1 12 ∧ E h mdX10_paused [.ref x1, .int (xs (x3 + 1 : Int32).toNatClampNeg), .int (xs (x3 + 2 : Int32).toNatClampNeg)] M (fun r M80 => mE M M80 → ∃ r81 : Int32, r = some (.int r81) ∧ vp_in (x3 + 1) L ∧ vp_in (x3 + 2) L ∧ ok M80 x2 13 ∧ E h mdX11_paused [.ref x2, .int (xs (x3 + 1 : Int32).toNatClampNeg), .int (xs (x3 + 2 : Int32).toNatClampNeg)] M80 (fun r M83 => mE M80 M83 → ∃ r84 : Int32, r = some (.int r84) ∧ DL_law_1023 L xs h x1 x2 x3 M83 Q))) ∧
  (((xs (x3 : Int32).toNatClampNeg) &&& 31) = 15 → vp_in (x3 + 1) L ∧ ok M x1 12 ∧ E h mdX10_keep [.ref x1, .int (xs (x3 + 1 : Int32).toNatClampNeg)] M (fun r M86 => mE M M86 → ∃ r87 : Int32, r = some (.int r87) ∧ vp_in (x3 + 1) L ∧ ok M86 x2 13 ∧ E h mdX11_keep [.ref x2, .int (xs (x3 + 1 : Int32).toNatClampNeg)] M86 (fun r M89 => mE M86 M89 → ∃ r90 : Int32, r = some (.int r90) ∧ DL_law_1023 L xs h x1 x2 x3 M89 Q))) ∧
  (((xs (x3 : Int32).toNatClampNeg) &&& 31) = 16 → vp_in (x3 + 1) L ∧ ok M x1 12 ∧ E h mdX10_back [.ref x1, .int (xs (x3 + 1 : Int32).toNatClampNeg)] M (fun r M92 => mE M M92 → ∃ r93 : Int32, r = some (.int r93) ∧ vp_in (x3 + 1) L ∧ ok M92 x2 13 ∧ E h mdX11_back [.ref x2, .int (xs (x3 + 1 : Int32).toNatClampNeg)] M92 (fun r M95 => mE M92 M95 → ∃ r96 : Int32, r = some (.int r96) ∧ DL_law_1023 L xs h x1 x2 x3 M95 Q))) ∧
  (((xs (x3 : Int32).toNatClampNeg) &&& 31) = 17 → vp_in (x3 + 1) L ∧ vp_in (x3 + 2) L ∧ ok M x1 12 ∧ E h mdX10_same [.ref x1, .int (xs (x3 + 1 : Int32).toNatClampNeg), .int (xs (x3 + 2 : Int32).toNatClampNeg)] M (fun r M98 => mE M M98 → ∃ r99 : Int32, r = some (.int r99) ∧ vp_in (x3 + 1) L ∧ vp_in (x3 + 2) L ∧ ok M98 x2 13 ∧ E h mdX11_same [.ref x2, .int (xs (x3 + 1 : Int32).toNatClampNeg), .int (xs (x3 + 2 : Int32).toNatClampNeg)] M98 (fun r M101 => mE M98 M101 → ∃ r102 : Int32, r = some (.int r102) ∧ DL_law_1023 L xs h x1 x2 x3 M101 Q))) ∧
  (((xs (x3 : Int32).toNatClampNeg) &&& 31) = 18 → vp_in (x3 + 1) L ∧ ok M x1 12 ∧ E h mdX10_search [.ref x1, .int (xs (x3 + 1 : Int32).toNatClampNeg)] M (fun r M104 => mE M M104 → ∃ r105 : Int32, r = some (.int r105) ∧ vp_in (x3 + 1) L ∧ ok M104 x2 13 ∧ E h mdX11_search [.ref x2, .int (xs (x3 + 1 : Int32).toNatClampNeg)] M104 (fun r M107 => mE M104 M107 → ∃ r108 : Int32, r = some (.int r108) ∧ DL_law_1023 L xs h x1 x2 x3 M107 Q))) ∧
  (((xs (x3 : Int32).toNatClampNeg) &&& 31) = 19 → vp_in (x3 + 1) L ∧ vp_in (x3 + 2) L ∧ vp_in (x3 + 3) L ∧ vp_in (x3 + 4) L ∧ ok M x1 12 ∧ E h mdX10_move [.ref x1, .int (xs (x3 + 1 : Int32).toNatClampNeg), .int (xs (x3 + 2 : Int32).toNatClampNeg), .int (xs (x3 + 3 : Int32).toNatClampNeg), .int (xs (x3 + 4 : Int32).toNatClampNeg)] M (fun r M110 => mE M M110 → ∃ r111 : Int32, r = some (.int r111) ∧ vp_in (x3 + 1) L ∧ vp_in (x3 + 2) L ∧ vp_in (x3 + 3) L ∧ vp_in (x3 + 4) L ∧ ok M110 x2 13 ∧ E h mdX11_move [.ref x2, .int (xs (x3 + 1 : Int32).toNatClampNeg), .int (xs (x3 + 2 : Int32).toNatClampNeg), .int (xs (x3 + 3 : Int32).toNatClampNeg), .int (xs (x3 + 4 : Int32).toNatClampNeg)] M110 (fun r M113 => mE M110 M113 → ∃ r114 : Int32, r = some (.int r114) ∧ DL_law_1023 L xs h x1 x2 x3 M113 Q))) ∧
  (((xs (x3 : Int32).toNatClampNeg) &&& 31) = 20 → vp_in (x3 + 1) L ∧ vp_in (x3 + 2) L ∧ ok M x1 12 ∧ E h mdX10_classOf [.ref x1, .int (xs (x3 + 1 : Int32).toNatClampNeg), .int (xs (x3 + 2 : Int32).toNatClampNeg)] M (fun r M116 => mE M M116 → ∃ r117 : Int32, r = some (.int r117) ∧ vp_in (x3 + 1) L ∧ vp_in (x3 + 2) L ∧ ok M116 x2 13 ∧ E h mdX11_classOf [.ref x2, .int (xs (x3 + 1 : Int32).toNatClampNeg), .int (xs (x3 + 2 : Int32).toNatClampNeg)] M116 (fun r M119 => mE M116 M119 → ∃ r120 : Int32, r = some (.int r120) ∧ DL_law_1023 L xs h x1 x2 x3 M119 Q))) ∧
  (((xs (x3 : Int32).toNatClampNeg) &&& 31) = 21 → vp_in (x3 + 1) L ∧ vp_in (x3 + 2) L ∧ vp_in (x3 + 3) L ∧ ok M x1 12 ∧ E h mdX10_way [.ref x1, .int (xs (x3 + 1 : Int32).toNatClampNeg), .int (xs (x3 + 2 : Int32).toNatClampNeg), .int (xs (x3 + 3 : Int32).toNatClampNeg)] M (fun r M122 => mE M M122 → ∃ r123 : Int32, r = some (.int r123) ∧ vp_in (x3 + 1) L ∧ vp_in (x3 + 2) L ∧ vp_in (x3 + 3) L ∧ ok M122 x2 13 ∧ E h mdX11_way [.ref x2, .int (xs (x3 + 1 : Int32).toNatClampNeg), .int (xs (x3 + 2 : Int32).toNatClampNeg), .int (xs (x3 + 3 : Int32).toNatClampNeg)] M122 (fun r M125 => mE M122 M125 → ∃ r126 : Int32, r = some (.int r126) ∧ DL_law_1023 L xs h x1 x2 x3 M125 Q))) ∧
  (((xs (x3 : Int32).toNatClampNeg) &&& 31) = 22 → vp_in (x3 + 1) L ∧ vp_in (x3 + 2) L ∧ ok M x1 12 ∧ E h mdX10_never [.ref x1, .int (xs (x3 + 1 : Int32).toNatClampNeg), .int (xs (x3 + 2 : Int32).toNatClampNeg)] M (fun r M128 => mE M M128 → ∃ r129 : Int32, r = some (.int r129) ∧ vp_in (x3 + 1) L ∧ vp_in (x3 + 2) L ∧ ok M128 x2 13 ∧ E h mdX11_never [.ref x2, .int (xs (x3 + 1 : Int32).toNatClampNeg), .int (xs (x3 + 2 : Int32).toNatClampNeg)] M128 (fun r M131 => mE M128 M131 → ∃ r132 : Int32, r = some (.int r132) ∧ DL_law_1023 L xs h x1 x2 x3 M131 Q))) ∧
  (((xs (x3 : Int32).toNatClampNeg) &&& 31) = 23 → vp_in (x3 + 1) L ∧ vp_in (x3 + 2) L ∧ vp_in (x3 + 3) L ∧ ok M x1 12 ∧ E h mdX10_always [.ref x1, .int (xs (x3 + 1 : Int32).toNatClampNeg), .int (xs (x3 + 2 : Int32).toNatClampNeg), .int (xs (x3 + 3 : Int32).toNatClampNeg)] M (fun r M134 => mE M M134 → ∃ r135 : Int32, r = some (.int r135) ∧ vp_in (x3 + 1) L ∧ vp_in (x3 + 2) L ∧ vp_in (x3 + 3) L ∧ ok M134 x2 13 ∧ E h mdX11_always [.ref x2, .int (xs (x3 + 1 : Int32).toNatClampNeg), .int (xs (x3 + 2 : Int32).toNatClampNeg), .int (xs (x3 + 3 : Int32).toNatClampNeg)] M134 (fun r M137 => mE M134 M137 → ∃ r138 : Int32, r = some (.int r138) ∧ DL_law_1023 L xs h x1 x2 x3 M137 Q))) ∧
  (((xs (x3 : Int32).toNatClampNeg) &&& 31) = 24 → vp_in (x3 + 1) L ∧ ok M x1 12 ∧ E h mdX10_against [.ref x1, .int (xs (x3 + 1 : Int32).toNatClampNeg)] M (fun r M140 => mE M M140 → ∃ r141 : Int32, r = some (.int r141) ∧ vp_in (x3 + 1) L ∧ ok M140 x2 13 ∧ E h mdX11_against [.ref x2, .int (xs (x3 + 1 : Int32).toNatClampNeg)] M140 (fun r M143 => mE M140 M143 → ∃ r144 : Int32, r = some (.int r144) ∧ (r141 = r144 → DL_law_1023 L xs h x1 x2 x3 M143 Q) ∧
  (¬ (r141 = r144) → ((0 : Int32) = 0 ∨ (0 : Int32) = 1) ∧ Q (some (.int 0)) M143)))) ∧
  (((xs (x3 : Int32).toNatClampNeg) &&& 31) = 25 → vp_in (x3 + 1) L ∧ ok M x1 12 ∧ E h mdX10_count [.ref x1, .int (xs (x3 + 1 : Int32).toNatClampNeg)] M (fun r M146 => mE M M146 → ∃ r147 : Int32, r = some (.int r147) ∧ vp_in (x3 + 1) L ∧ ok M146 x2 13 ∧ E h mdX11_count [.ref x2, .int (xs (x3 + 1 : Int32).toNatClampNeg)] M146 (fun r M149 => mE M146 M149 → ∃ r150 : Int32, r = some (.int r150) ∧ DL_law_1023 L xs h x1 x2 x3 M149 Q))) ∧
  (((xs (x3 : Int32).toNatClampNeg) &&& 31) = 26 → ok M x1 12 ∧ E h mdX10_clear [.ref x1] M (fun r M152 => mE M M152 → ∃ r153 : Int32, r = some (.int r153) ∧ ok M152 x2 13 ∧ E h mdX11_clear [.ref x2] M152 (fun r M155 => mE M152 M155 → ∃ r156 : Int32, r = some (.int r156) ∧ DL_law_1023 L xs h x1 x2 x3 M155 Q))) ∧
  ((((xs (x3 : Int32).toNatClampNeg) &&& 31 : Int32).toInt < 0 ∨ 26 < ((xs (x3 : Int32).toNatClampNeg) &&& 31 : Int32).toInt) → DL_law_1023 L xs h x1 x2 x3 M Q))
set_option maxRecDepth 20000 in
set_option maxHeartbeats 2000000 in
theorem VL_law_18 {L : Nat} {xs : Nat → Int32} {h : Nat} {x1 : Nat} {x2 : Nat} {x3 : Int32} {M : Mem} {Q : Option Value → Mem → Prop} (H : DL_law_18 L xs h x1 x2 x3 M Q) : T (h + 1) (mdL L xs) 18 [(0, .ref (mBig + 0)), (1, .ref x1), (2, .ref x2), (3, .int x3)] [] M Q := by
  unfold DL_law_18 at H
  refine xt_iload_n (j := 3) dL_law_18 rfl rfl ?_
  refine xt_aload_n (j := 0) dL_law_19 rfl rfl ?_
  refine xt_slen dL_law_20 ?_
  refine xt_bipush (v := 6) dL_law_21 (by decide) ?_
  refine xt_isub dL_law_23 ?_
  refine xt_icmp_gt (tgt := 1029) dL_law_24 (by decide) (fun hc => ?_) (fun hc => ?_)
  · have H := H.1 hc
    refine xt_iconst (v := 1) dL_law_1029 (by decide) ?_
    exact xt_zreturn dL_law_1030 rfl H.1 H.2
  · have H := H.2 hc
    refine xt_aload_n (j := 0) dL_law_27 rfl rfl ?_
    refine xt_iload_n (j := 3) dL_law_28 rfl rfl ?_
    obtain ⟨hi, H⟩ := H
    refine xt_sld dL_law_29 hi ?_
    refine xt_bipush (v := 31) dL_law_30 (by decide) ?_
    refine xt_iand dL_law_32 ?_
    by_cases hsw : ((xs (x3 : Int32).toNatClampNeg) &&& 31 : Int32).toInt < 0 ∨ 26 < ((xs (x3 : Int32).toNatClampNeg) &&& 31 : Int32).toInt
    · refine xt_tableOut (tgt := 1023) dL_law_33 hsw (by decide) ?_
      have H := H.2.2.2.2.2.2.2.2.2.2.2.2.2.2.2.2.2.2.2.2.2.2.2.2.2.2.2 hsw
      exact xt_sub [0, 1, 2, 3] rfl (VL_law_1023 H)
    · have hsw2 : ((xs (x3 : Int32).toNatClampNeg) &&& 31 : Int32).toInt = 0 ∨ ((xs (x3 : Int32).toNatClampNeg) &&& 31 : Int32).toInt = 1 ∨ ((xs (x3 : Int32).toNatClampNeg) &&& 31 : Int32).toInt = 2 ∨ ((xs (x3 : Int32).toNatClampNeg) &&& 31 : Int32).toInt = 3 ∨ ((xs (x3 : Int32).toNatClampNeg) &&& 31 : Int32).toInt = 4 ∨ ((xs (x3 : Int32).toNatClampNeg) &&& 31 : Int32).toInt = 5 ∨ ((xs (x3 : Int32).toNatClampNeg) &&& 31 : Int32).toInt = 6 ∨ ((xs (x3 : Int32).toNatClampNeg) &&& 31 : Int32).toInt = 7 ∨ ((xs (x3 : Int32).toNatClampNeg) &&& 31 : Int32).toInt = 8 ∨ ((xs (x3 : Int32).toNatClampNeg) &&& 31 : Int32).toInt = 9 ∨ ((xs (x3 : Int32).toNatClampNeg) &&& 31 : Int32).toInt = 10 ∨ ((xs (x3 : Int32).toNatClampNeg) &&& 31 : Int32).toInt = 11 ∨ ((xs (x3 : Int32).toNatClampNeg) &&& 31 : Int32).toInt = 12 ∨ ((xs (x3 : Int32).toNatClampNeg) &&& 31 : Int32).toInt = 13 ∨ ((xs (x3 : Int32).toNatClampNeg) &&& 31 : Int32).toInt = 14 ∨ ((xs (x3 : Int32).toNatClampNeg) &&& 31 : Int32).toInt = 15 ∨ ((xs (x3 : Int32).toNatClampNeg) &&& 31 : Int32).toInt = 16 ∨ ((xs (x3 : Int32).toNatClampNeg) &&& 31 : Int32).toInt = 17 ∨ ((xs (x3 : Int32).toNatClampNeg) &&& 31 : Int32).toInt = 18 ∨ ((xs (x3 : Int32).toNatClampNeg) &&& 31 : Int32).toInt = 19 ∨ ((xs (x3 : Int32).toNatClampNeg) &&& 31 : Int32).toInt = 20 ∨ ((xs (x3 : Int32).toNatClampNeg) &&& 31 : Int32).toInt = 21 ∨ ((xs (x3 : Int32).toNatClampNeg) &&& 31 : Int32).toInt = 22 ∨ ((xs (x3 : Int32).toNatClampNeg) &&& 31 : Int32).toInt = 23 ∨ ((xs (x3 : Int32).toNatClampNeg) &&& 31 : Int32).toInt = 24 ∨ ((xs (x3 : Int32).toNatClampNeg) &&& 31 : Int32).toInt = 25 ∨ ((xs (x3 : Int32).toNatClampNeg) &&& 31 : Int32).toInt = 26 := by omega
      rcases hsw2 with hv | hv | hv | hv | hv | hv | hv | hv | hv | hv | hv | hv | hv | hv | hv | hv | hv | hv | hv | hv | hv | hv | hv | hv | hv | hv | hv
      · have hx : ((xs (x3 : Int32).toNatClampNeg) &&& 31) = 0 := i32_ofInt hv
        have H := H.1 hx
        refine xt_tableIn (tgt := 156) dL_law_33 (by omega) (by omega) (by rw [hv]; rfl) (by decide) ?_
        refine xt_aload_n (j := 1) dL_law_156 rfl rfl ?_
        refine xt_aload_n (j := 0) dL_law_157 rfl rfl ?_
        refine xt_iload_n (j := 3) dL_law_158 rfl rfl ?_
        refine xt_iconst (v := 1) dL_law_159 (by decide) ?_
        refine xt_iadd dL_law_160 ?_
        obtain ⟨hi, H⟩ := H
        refine xt_sld dL_law_161 hi ?_
        refine xt_aload_n (j := 0) dL_law_162 rfl rfl ?_
        refine xt_iload_n (j := 3) dL_law_163 rfl rfl ?_
        refine xt_iconst (v := 2) dL_law_164 (by decide) ?_
        refine xt_iadd dL_law_165 ?_
        obtain ⟨hi, H⟩ := H
        refine xt_sld dL_law_166 hi ?_
        refine xt_aload_n (j := 0) dL_law_167 rfl rfl ?_
        refine xt_iload_n (j := 3) dL_law_168 rfl rfl ?_
        refine xt_iconst (v := 3) dL_law_169 (by decide) ?_
        refine xt_iadd dL_law_170 ?_
        obtain ⟨hi, H⟩ := H
        refine xt_sld dL_law_171 hi ?_
        refine xt_aload_n (j := 0) dL_law_172 rfl rfl ?_
        refine xt_iload_n (j := 3) dL_law_173 rfl rfl ?_
        refine xt_iconst (v := 4) dL_law_174 (by decide) ?_
        refine xt_iadd dL_law_175 ?_
        obtain ⟨hi, H⟩ := H
        refine xt_sld dL_law_176 hi ?_
        refine xt_aload_n (j := 0) dL_law_177 rfl rfl ?_
        refine xt_iload_n (j := 3) dL_law_178 rfl rfl ?_
        refine xt_iconst (v := 5) dL_law_179 (by decide) ?_
        refine xt_iadd dL_law_180 ?_
        obtain ⟨hi, H⟩ := H
        refine xt_sld dL_law_181 hi ?_
        obtain ⟨ho1, H⟩ := H
        refine xt_callV (h2 := h) (as := [.int (xs (x3 + 1 : Int32).toNatClampNeg), .int (xs (x3 + 2 : Int32).toNatClampNeg), .int (xs (x3 + 3 : Int32).toNatClampNeg), .int (xs (x3 + 4 : Int32).toNatClampNeg), .int (xs (x3 + 5 : Int32).toNatClampNeg)]) (st := []) dL_law_182 (mlL_13 rfl) rfl ho1.1 ⟨by rw [ho1.2]; rfl, by rw [ho1.2]; decide⟩ (by first | decide | (simp [Value.category]; done)) (Nat.le_refl _) H (fun r M2 HH hE => ?_)
        obtain ⟨r3, hr, H⟩ := HH hE
        subst hr
        have ho1 := ok_E ho1 hE
        show T _ _ _ _ [.int r3] _ _
        refine xt_pop dL_law_185 rfl ?_
        refine xt_aload_n (j := 2) dL_law_186 rfl rfl ?_
        refine xt_aload_n (j := 0) dL_law_187 rfl rfl ?_
        refine xt_iload_n (j := 3) dL_law_188 rfl rfl ?_
        refine xt_iconst (v := 1) dL_law_189 (by decide) ?_
        refine xt_iadd dL_law_190 ?_
        obtain ⟨hi, H⟩ := H
        refine xt_sld dL_law_191 hi ?_
        refine xt_aload_n (j := 0) dL_law_192 rfl rfl ?_
        refine xt_iload_n (j := 3) dL_law_193 rfl rfl ?_
        refine xt_iconst (v := 2) dL_law_194 (by decide) ?_
        refine xt_iadd dL_law_195 ?_
        obtain ⟨hi, H⟩ := H
        refine xt_sld dL_law_196 hi ?_
        refine xt_aload_n (j := 0) dL_law_197 rfl rfl ?_
        refine xt_iload_n (j := 3) dL_law_198 rfl rfl ?_
        refine xt_iconst (v := 3) dL_law_199 (by decide) ?_
        refine xt_iadd dL_law_200 ?_
        obtain ⟨hi, H⟩ := H
        refine xt_sld dL_law_201 hi ?_
        refine xt_aload_n (j := 0) dL_law_202 rfl rfl ?_
        refine xt_iload_n (j := 3) dL_law_203 rfl rfl ?_
        refine xt_iconst (v := 4) dL_law_204 (by decide) ?_
        refine xt_iadd dL_law_205 ?_
        obtain ⟨hi, H⟩ := H
        refine xt_sld dL_law_206 hi ?_
        refine xt_aload_n (j := 0) dL_law_207 rfl rfl ?_
        refine xt_iload_n (j := 3) dL_law_208 rfl rfl ?_
        refine xt_iconst (v := 5) dL_law_209 (by decide) ?_
        refine xt_iadd dL_law_210 ?_
        obtain ⟨hi, H⟩ := H
        refine xt_sld dL_law_211 hi ?_
        obtain ⟨ho4, H⟩ := H
        refine xt_callV (h2 := h) (as := [.int (xs (x3 + 1 : Int32).toNatClampNeg), .int (xs (x3 + 2 : Int32).toNatClampNeg), .int (xs (x3 + 3 : Int32).toNatClampNeg), .int (xs (x3 + 4 : Int32).toNatClampNeg), .int (xs (x3 + 5 : Int32).toNatClampNeg)]) (st := []) dL_law_212 (mlL_17 rfl) rfl ho4.1 ⟨by rw [ho4.2]; rfl, by rw [ho4.2]; decide⟩ (by first | decide | (simp [Value.category]; done)) (Nat.le_refl _) H (fun r M5 HH hE => ?_)
        obtain ⟨r6, hr, H⟩ := HH hE
        subst hr
        have ho1 := ok_E ho1 hE
        have ho4 := ok_E ho4 hE
        show T _ _ _ _ [.int r6] _ _
        refine xt_pop dL_law_215 rfl ?_
        refine xt_goto (tgt := 1023) dL_law_216 (by decide) ?_
        exact xt_sub [0, 1, 2, 3] rfl (VL_law_1023 H)
      · have hx : ((xs (x3 : Int32).toNatClampNeg) &&& 31) = 1 := i32_ofInt hv
        have H := H.2.1 hx
        refine xt_tableIn (tgt := 219) dL_law_33 (by omega) (by omega) (by rw [hv]; rfl) (by decide) ?_
        refine xt_aload_n (j := 1) dL_law_219 rfl rfl ?_
        refine xt_aload_n (j := 0) dL_law_220 rfl rfl ?_
        refine xt_iload_n (j := 3) dL_law_221 rfl rfl ?_
        refine xt_iconst (v := 1) dL_law_222 (by decide) ?_
        refine xt_iadd dL_law_223 ?_
        obtain ⟨hi, H⟩ := H
        refine xt_sld dL_law_224 hi ?_
        obtain ⟨ho7, H⟩ := H
        refine xt_callV (h2 := h) (as := [.int (xs (x3 + 1 : Int32).toNatClampNeg)]) (st := []) dL_law_225 (mlL_18 rfl) rfl ho7.1 ⟨by rw [ho7.2]; rfl, by rw [ho7.2]; decide⟩ (by first | decide | (simp [Value.category]; done)) (Nat.le_refl _) H (fun r M8 HH hE => ?_)
        obtain ⟨r9, hr, H⟩ := HH hE
        subst hr
        have ho7 := ok_E ho7 hE
        show T _ _ _ _ [.int r9] _ _
        refine xt_pop dL_law_228 rfl ?_
        refine xt_aload_n (j := 2) dL_law_229 rfl rfl ?_
        refine xt_aload_n (j := 0) dL_law_230 rfl rfl ?_
        refine xt_iload_n (j := 3) dL_law_231 rfl rfl ?_
        refine xt_iconst (v := 1) dL_law_232 (by decide) ?_
        refine xt_iadd dL_law_233 ?_
        obtain ⟨hi, H⟩ := H
        refine xt_sld dL_law_234 hi ?_
        obtain ⟨ho10, H⟩ := H
        refine xt_callV (h2 := h) (as := [.int (xs (x3 + 1 : Int32).toNatClampNeg)]) (st := []) dL_law_235 (mlL_22 rfl) rfl ho10.1 ⟨by rw [ho10.2]; rfl, by rw [ho10.2]; decide⟩ (by first | decide | (simp [Value.category]; done)) (Nat.le_refl _) H (fun r M11 HH hE => ?_)
        obtain ⟨r12, hr, H⟩ := HH hE
        subst hr
        have ho7 := ok_E ho7 hE
        have ho10 := ok_E ho10 hE
        show T _ _ _ _ [.int r12] _ _
        refine xt_pop dL_law_238 rfl ?_
        refine xt_goto (tgt := 1023) dL_law_239 (by decide) ?_
        exact xt_sub [0, 1, 2, 3] rfl (VL_law_1023 H)
      · have hx : ((xs (x3 : Int32).toNatClampNeg) &&& 31) = 2 := i32_ofInt hv
        have H := H.2.2.1 hx
        refine xt_tableIn (tgt := 242) dL_law_33 (by omega) (by omega) (by rw [hv]; rfl) (by decide) ?_
        refine xt_aload_n (j := 1) dL_law_242 rfl rfl ?_
        obtain ⟨ho13, H⟩ := H
        refine xt_callV (h2 := h) (as := []) (st := []) dL_law_243 (mlL_23 rfl) rfl ho13.1 ⟨by rw [ho13.2]; rfl, by rw [ho13.2]; decide⟩ (by first | decide | (simp [Value.category]; done)) (Nat.le_refl _) H (fun r M14 HH hE => ?_)
        obtain ⟨r15, hr, H⟩ := HH hE
        subst hr
        have ho13 := ok_E ho13 hE
        show T _ _ _ _ [.int r15] _ _
        refine xt_pop dL_law_246 rfl ?_
        refine xt_aload_n (j := 2) dL_law_247 rfl rfl ?_
        obtain ⟨ho16, H⟩ := H
        refine xt_callV (h2 := h) (as := []) (st := []) dL_law_248 (mlL_27 rfl) rfl ho16.1 ⟨by rw [ho16.2]; rfl, by rw [ho16.2]; decide⟩ (by first | decide | (simp [Value.category]; done)) (Nat.le_refl _) H (fun r M17 HH hE => ?_)
        obtain ⟨r18, hr, H⟩ := HH hE
        subst hr
        have ho13 := ok_E ho13 hE
        have ho16 := ok_E ho16 hE
        show T _ _ _ _ [.int r18] _ _
        refine xt_pop dL_law_251 rfl ?_
        refine xt_goto (tgt := 1023) dL_law_252 (by decide) ?_
        exact xt_sub [0, 1, 2, 3] rfl (VL_law_1023 H)
      · have hx : ((xs (x3 : Int32).toNatClampNeg) &&& 31) = 3 := i32_ofInt hv
        have H := H.2.2.2.1 hx
        refine xt_tableIn (tgt := 255) dL_law_33 (by omega) (by omega) (by rw [hv]; rfl) (by decide) ?_
        refine xt_aload_n (j := 1) dL_law_255 rfl rfl ?_
        obtain ⟨ho19, H⟩ := H
        refine xt_callV (h2 := h) (as := []) (st := []) dL_law_256 (mlL_28 rfl) rfl ho19.1 ⟨by rw [ho19.2]; rfl, by rw [ho19.2]; decide⟩ (by first | decide | (simp [Value.category]; done)) (Nat.le_refl _) H (fun r M20 HH hE => ?_)
        obtain ⟨r21, hr, H⟩ := HH hE
        subst hr
        have ho19 := ok_E ho19 hE
        show T _ _ _ _ [.int r21] _ _
        refine xt_pop dL_law_259 rfl ?_
        refine xt_aload_n (j := 2) dL_law_260 rfl rfl ?_
        obtain ⟨ho22, H⟩ := H
        refine xt_callV (h2 := h) (as := []) (st := []) dL_law_261 (mlL_31 rfl) rfl ho22.1 ⟨by rw [ho22.2]; rfl, by rw [ho22.2]; decide⟩ (by first | decide | (simp [Value.category]; done)) (Nat.le_refl _) H (fun r M23 HH hE => ?_)
        obtain ⟨r24, hr, H⟩ := HH hE
        subst hr
        have ho19 := ok_E ho19 hE
        have ho22 := ok_E ho22 hE
        show T _ _ _ _ [.int r24] _ _
        refine xt_pop dL_law_264 rfl ?_
        refine xt_goto (tgt := 1023) dL_law_265 (by decide) ?_
        exact xt_sub [0, 1, 2, 3] rfl (VL_law_1023 H)
      · have hx : ((xs (x3 : Int32).toNatClampNeg) &&& 31) = 4 := i32_ofInt hv
        have H := H.2.2.2.2.1 hx
        refine xt_tableIn (tgt := 268) dL_law_33 (by omega) (by omega) (by rw [hv]; rfl) (by decide) ?_
        refine xt_aload_n (j := 1) dL_law_268 rfl rfl ?_
        refine xt_aload_n (j := 0) dL_law_269 rfl rfl ?_
        refine xt_iload_n (j := 3) dL_law_270 rfl rfl ?_
        refine xt_iconst (v := 1) dL_law_271 (by decide) ?_
        refine xt_iadd dL_law_272 ?_
        obtain ⟨hi, H⟩ := H
        refine xt_sld dL_law_273 hi ?_
        refine xt_aload_n (j := 0) dL_law_274 rfl rfl ?_
        refine xt_iload_n (j := 3) dL_law_275 rfl rfl ?_
        refine xt_iconst (v := 2) dL_law_276 (by decide) ?_
        refine xt_iadd dL_law_277 ?_
        obtain ⟨hi, H⟩ := H
        refine xt_sld dL_law_278 hi ?_
        obtain ⟨ho25, H⟩ := H
        refine xt_callV (h2 := h) (as := [.int (xs (x3 + 1 : Int32).toNatClampNeg), .int (xs (x3 + 2 : Int32).toNatClampNeg)]) (st := []) dL_law_279 (mlL_32 rfl) rfl ho25.1 ⟨by rw [ho25.2]; rfl, by rw [ho25.2]; decide⟩ (by first | decide | (simp [Value.category]; done)) (Nat.le_refl _) H (fun r M26 HH hE => ?_)
        obtain ⟨r27, hr, H⟩ := HH hE
        subst hr
        have ho25 := ok_E ho25 hE
        show T _ _ _ _ [.int r27] _ _
        refine xt_pop dL_law_282 rfl ?_
        refine xt_aload_n (j := 2) dL_law_283 rfl rfl ?_
        refine xt_aload_n (j := 0) dL_law_284 rfl rfl ?_
        refine xt_iload_n (j := 3) dL_law_285 rfl rfl ?_
        refine xt_iconst (v := 1) dL_law_286 (by decide) ?_
        refine xt_iadd dL_law_287 ?_
        obtain ⟨hi, H⟩ := H
        refine xt_sld dL_law_288 hi ?_
        refine xt_aload_n (j := 0) dL_law_289 rfl rfl ?_
        refine xt_iload_n (j := 3) dL_law_290 rfl rfl ?_
        refine xt_iconst (v := 2) dL_law_291 (by decide) ?_
        refine xt_iadd dL_law_292 ?_
        obtain ⟨hi, H⟩ := H
        refine xt_sld dL_law_293 hi ?_
        obtain ⟨ho28, H⟩ := H
        refine xt_callV (h2 := h) (as := [.int (xs (x3 + 1 : Int32).toNatClampNeg), .int (xs (x3 + 2 : Int32).toNatClampNeg)]) (st := []) dL_law_294 (mlL_36 rfl) rfl ho28.1 ⟨by rw [ho28.2]; rfl, by rw [ho28.2]; decide⟩ (by first | decide | (simp [Value.category]; done)) (Nat.le_refl _) H (fun r M29 HH hE => ?_)
        obtain ⟨r30, hr, H⟩ := HH hE
        subst hr
        have ho25 := ok_E ho25 hE
        have ho28 := ok_E ho28 hE
        show T _ _ _ _ [.int r30] _ _
        refine xt_pop dL_law_297 rfl ?_
        refine xt_goto (tgt := 1023) dL_law_298 (by decide) ?_
        exact xt_sub [0, 1, 2, 3] rfl (VL_law_1023 H)
      · have hx : ((xs (x3 : Int32).toNatClampNeg) &&& 31) = 5 := i32_ofInt hv
        have H := H.2.2.2.2.2.1 hx
        refine xt_tableIn (tgt := 301) dL_law_33 (by omega) (by omega) (by rw [hv]; rfl) (by decide) ?_
        refine xt_aload_n (j := 1) dL_law_301 rfl rfl ?_
        refine xt_aload_n (j := 0) dL_law_302 rfl rfl ?_
        refine xt_iload_n (j := 3) dL_law_303 rfl rfl ?_
        refine xt_iconst (v := 1) dL_law_304 (by decide) ?_
        refine xt_iadd dL_law_305 ?_
        obtain ⟨hi, H⟩ := H
        refine xt_sld dL_law_306 hi ?_
        refine xt_aload_n (j := 0) dL_law_307 rfl rfl ?_
        refine xt_iload_n (j := 3) dL_law_308 rfl rfl ?_
        refine xt_iconst (v := 2) dL_law_309 (by decide) ?_
        refine xt_iadd dL_law_310 ?_
        obtain ⟨hi, H⟩ := H
        refine xt_sld dL_law_311 hi ?_
        obtain ⟨ho31, H⟩ := H
        refine xt_callV (h2 := h) (as := [.int (xs (x3 + 1 : Int32).toNatClampNeg), .int (xs (x3 + 2 : Int32).toNatClampNeg)]) (st := []) dL_law_312 (mlL_37 rfl) rfl ho31.1 ⟨by rw [ho31.2]; rfl, by rw [ho31.2]; decide⟩ (by first | decide | (simp [Value.category]; done)) (Nat.le_refl _) H (fun r M32 HH hE => ?_)
        obtain ⟨r33, hr, H⟩ := HH hE
        subst hr
        have ho31 := ok_E ho31 hE
        show T _ _ _ _ [.int r33] _ _
        refine xt_pop dL_law_315 rfl ?_
        refine xt_aload_n (j := 2) dL_law_316 rfl rfl ?_
        refine xt_aload_n (j := 0) dL_law_317 rfl rfl ?_
        refine xt_iload_n (j := 3) dL_law_318 rfl rfl ?_
        refine xt_iconst (v := 1) dL_law_319 (by decide) ?_
        refine xt_iadd dL_law_320 ?_
        obtain ⟨hi, H⟩ := H
        refine xt_sld dL_law_321 hi ?_
        refine xt_aload_n (j := 0) dL_law_322 rfl rfl ?_
        refine xt_iload_n (j := 3) dL_law_323 rfl rfl ?_
        refine xt_iconst (v := 2) dL_law_324 (by decide) ?_
        refine xt_iadd dL_law_325 ?_
        obtain ⟨hi, H⟩ := H
        refine xt_sld dL_law_326 hi ?_
        obtain ⟨ho34, H⟩ := H
        refine xt_callV (h2 := h) (as := [.int (xs (x3 + 1 : Int32).toNatClampNeg), .int (xs (x3 + 2 : Int32).toNatClampNeg)]) (st := []) dL_law_327 (mlL_40 rfl) rfl ho34.1 ⟨by rw [ho34.2]; rfl, by rw [ho34.2]; decide⟩ (by first | decide | (simp [Value.category]; done)) (Nat.le_refl _) H (fun r M35 HH hE => ?_)
        obtain ⟨r36, hr, H⟩ := HH hE
        subst hr
        have ho31 := ok_E ho31 hE
        have ho34 := ok_E ho34 hE
        show T _ _ _ _ [.int r36] _ _
        refine xt_pop dL_law_330 rfl ?_
        refine xt_goto (tgt := 1023) dL_law_331 (by decide) ?_
        exact xt_sub [0, 1, 2, 3] rfl (VL_law_1023 H)
      · have hx : ((xs (x3 : Int32).toNatClampNeg) &&& 31) = 6 := i32_ofInt hv
        have H := H.2.2.2.2.2.2.1 hx
        refine xt_tableIn (tgt := 334) dL_law_33 (by omega) (by omega) (by rw [hv]; rfl) (by decide) ?_
        refine xt_aload_n (j := 1) dL_law_334 rfl rfl ?_
        refine xt_aload_n (j := 0) dL_law_335 rfl rfl ?_
        refine xt_iload_n (j := 3) dL_law_336 rfl rfl ?_
        refine xt_iconst (v := 1) dL_law_337 (by decide) ?_
        refine xt_iadd dL_law_338 ?_
        obtain ⟨hi, H⟩ := H
        refine xt_sld dL_law_339 hi ?_
        obtain ⟨ho37, H⟩ := H
        refine xt_callV (h2 := h) (as := [.int (xs (x3 + 1 : Int32).toNatClampNeg)]) (st := []) dL_law_340 (mlL_41 rfl) rfl ho37.1 ⟨by rw [ho37.2]; rfl, by rw [ho37.2]; decide⟩ (by first | decide | (simp [Value.category]; done)) (Nat.le_refl _) H (fun r M38 HH hE => ?_)
        obtain ⟨r39, hr, H⟩ := HH hE
        subst hr
        have ho37 := ok_E ho37 hE
        show T _ _ _ _ [.int r39] _ _
        refine xt_pop dL_law_343 rfl ?_
        refine xt_aload_n (j := 2) dL_law_344 rfl rfl ?_
        refine xt_aload_n (j := 0) dL_law_345 rfl rfl ?_
        refine xt_iload_n (j := 3) dL_law_346 rfl rfl ?_
        refine xt_iconst (v := 1) dL_law_347 (by decide) ?_
        refine xt_iadd dL_law_348 ?_
        obtain ⟨hi, H⟩ := H
        refine xt_sld dL_law_349 hi ?_
        obtain ⟨ho40, H⟩ := H
        refine xt_callV (h2 := h) (as := [.int (xs (x3 + 1 : Int32).toNatClampNeg)]) (st := []) dL_law_350 (mlL_44 rfl) rfl ho40.1 ⟨by rw [ho40.2]; rfl, by rw [ho40.2]; decide⟩ (by first | decide | (simp [Value.category]; done)) (Nat.le_refl _) H (fun r M41 HH hE => ?_)
        obtain ⟨r42, hr, H⟩ := HH hE
        subst hr
        have ho37 := ok_E ho37 hE
        have ho40 := ok_E ho40 hE
        show T _ _ _ _ [.int r42] _ _
        refine xt_pop dL_law_353 rfl ?_
        refine xt_goto (tgt := 1023) dL_law_354 (by decide) ?_
        exact xt_sub [0, 1, 2, 3] rfl (VL_law_1023 H)
      · have hx : ((xs (x3 : Int32).toNatClampNeg) &&& 31) = 7 := i32_ofInt hv
        have H := H.2.2.2.2.2.2.2.1 hx
        refine xt_tableIn (tgt := 357) dL_law_33 (by omega) (by omega) (by rw [hv]; rfl) (by decide) ?_
        refine xt_aload_n (j := 1) dL_law_357 rfl rfl ?_
        refine xt_aload_n (j := 0) dL_law_358 rfl rfl ?_
        refine xt_iload_n (j := 3) dL_law_359 rfl rfl ?_
        refine xt_iconst (v := 1) dL_law_360 (by decide) ?_
        refine xt_iadd dL_law_361 ?_
        obtain ⟨hi, H⟩ := H
        refine xt_sld dL_law_362 hi ?_
        refine xt_aload_n (j := 0) dL_law_363 rfl rfl ?_
        refine xt_iload_n (j := 3) dL_law_364 rfl rfl ?_
        refine xt_iconst (v := 2) dL_law_365 (by decide) ?_
        refine xt_iadd dL_law_366 ?_
        obtain ⟨hi, H⟩ := H
        refine xt_sld dL_law_367 hi ?_
        refine xt_aload_n (j := 0) dL_law_368 rfl rfl ?_
        refine xt_iload_n (j := 3) dL_law_369 rfl rfl ?_
        refine xt_iconst (v := 3) dL_law_370 (by decide) ?_
        refine xt_iadd dL_law_371 ?_
        obtain ⟨hi, H⟩ := H
        refine xt_sld dL_law_372 hi ?_
        refine xt_if_eq (tgt := 380) dL_law_373 (by decide) (fun hc => ?_) (fun hc => ?_)
        · have H := H.1 hc
          refine xt_iconst (v := 0) dL_law_380 (by decide) ?_
          exact xt_sub [0, 1, 2, 3] rfl (VL_law_381 H)
        · have H := H.2 hc
          refine xt_iconst (v := 1) dL_law_376 (by decide) ?_
          refine xt_goto (tgt := 381) dL_law_377 (by decide) ?_
          exact xt_sub [0, 1, 2, 3] rfl (VL_law_381 H)
      · have hx : ((xs (x3 : Int32).toNatClampNeg) &&& 31) = 8 := i32_ofInt hv
        have H := H.2.2.2.2.2.2.2.2.1 hx
        refine xt_tableIn (tgt := 426) dL_law_33 (by omega) (by omega) (by rw [hv]; rfl) (by decide) ?_
        refine xt_aload_n (j := 1) dL_law_426 rfl rfl ?_
        refine xt_aload_n (j := 0) dL_law_427 rfl rfl ?_
        refine xt_iload_n (j := 3) dL_law_428 rfl rfl ?_
        refine xt_iconst (v := 1) dL_law_429 (by decide) ?_
        refine xt_iadd dL_law_430 ?_
        obtain ⟨hi, H⟩ := H
        refine xt_sld dL_law_431 hi ?_
        obtain ⟨ho43, H⟩ := H
        refine xt_callV (h2 := h) (as := [.int (xs (x3 + 1 : Int32).toNatClampNeg)]) (st := []) dL_law_432 (mlL_50 rfl) rfl ho43.1 ⟨by rw [ho43.2]; rfl, by rw [ho43.2]; decide⟩ (by first | decide | (simp [Value.category]; done)) (Nat.le_refl _) H (fun r M44 HH hE => ?_)
        obtain ⟨r45, hr, H⟩ := HH hE
        subst hr
        have ho43 := ok_E ho43 hE
        show T _ _ _ _ [.int r45] _ _
        refine xt_pop dL_law_435 rfl ?_
        refine xt_aload_n (j := 2) dL_law_436 rfl rfl ?_
        refine xt_aload_n (j := 0) dL_law_437 rfl rfl ?_
        refine xt_iload_n (j := 3) dL_law_438 rfl rfl ?_
        refine xt_iconst (v := 1) dL_law_439 (by decide) ?_
        refine xt_iadd dL_law_440 ?_
        obtain ⟨hi, H⟩ := H
        refine xt_sld dL_law_441 hi ?_
        obtain ⟨ho46, H⟩ := H
        refine xt_callV (h2 := h) (as := [.int (xs (x3 + 1 : Int32).toNatClampNeg)]) (st := []) dL_law_442 (mlL_53 rfl) rfl ho46.1 ⟨by rw [ho46.2]; rfl, by rw [ho46.2]; decide⟩ (by first | decide | (simp [Value.category]; done)) (Nat.le_refl _) H (fun r M47 HH hE => ?_)
        obtain ⟨r48, hr, H⟩ := HH hE
        subst hr
        have ho43 := ok_E ho43 hE
        have ho46 := ok_E ho46 hE
        show T _ _ _ _ [.int r48] _ _
        refine xt_pop dL_law_445 rfl ?_
        refine xt_goto (tgt := 1023) dL_law_446 (by decide) ?_
        exact xt_sub [0, 1, 2, 3] rfl (VL_law_1023 H)
      · have hx : ((xs (x3 : Int32).toNatClampNeg) &&& 31) = 9 := i32_ofInt hv
        have H := H.2.2.2.2.2.2.2.2.2.1 hx
        refine xt_tableIn (tgt := 449) dL_law_33 (by omega) (by omega) (by rw [hv]; rfl) (by decide) ?_
        refine xt_aload_n (j := 1) dL_law_449 rfl rfl ?_
        refine xt_aload_n (j := 0) dL_law_450 rfl rfl ?_
        refine xt_iload_n (j := 3) dL_law_451 rfl rfl ?_
        refine xt_iconst (v := 1) dL_law_452 (by decide) ?_
        refine xt_iadd dL_law_453 ?_
        obtain ⟨hi, H⟩ := H
        refine xt_sld dL_law_454 hi ?_
        refine xt_aload_n (j := 0) dL_law_455 rfl rfl ?_
        refine xt_iload_n (j := 3) dL_law_456 rfl rfl ?_
        refine xt_iconst (v := 2) dL_law_457 (by decide) ?_
        refine xt_iadd dL_law_458 ?_
        obtain ⟨hi, H⟩ := H
        refine xt_sld dL_law_459 hi ?_
        obtain ⟨ho49, H⟩ := H
        refine xt_callV (h2 := h) (as := [.int (xs (x3 + 1 : Int32).toNatClampNeg), .int (xs (x3 + 2 : Int32).toNatClampNeg)]) (st := []) dL_law_460 (mlL_54 rfl) rfl ho49.1 ⟨by rw [ho49.2]; rfl, by rw [ho49.2]; decide⟩ (by first | decide | (simp [Value.category]; done)) (Nat.le_refl _) H (fun r M50 HH hE => ?_)
        obtain ⟨r51, hr, H⟩ := HH hE
        subst hr
        have ho49 := ok_E ho49 hE
        show T _ _ _ _ [.int r51] _ _
        refine xt_pop dL_law_463 rfl ?_
        refine xt_aload_n (j := 2) dL_law_464 rfl rfl ?_
        refine xt_aload_n (j := 0) dL_law_465 rfl rfl ?_
        refine xt_iload_n (j := 3) dL_law_466 rfl rfl ?_
        refine xt_iconst (v := 1) dL_law_467 (by decide) ?_
        refine xt_iadd dL_law_468 ?_
        obtain ⟨hi, H⟩ := H
        refine xt_sld dL_law_469 hi ?_
        refine xt_aload_n (j := 0) dL_law_470 rfl rfl ?_
        refine xt_iload_n (j := 3) dL_law_471 rfl rfl ?_
        refine xt_iconst (v := 2) dL_law_472 (by decide) ?_
        refine xt_iadd dL_law_473 ?_
        obtain ⟨hi, H⟩ := H
        refine xt_sld dL_law_474 hi ?_
        obtain ⟨ho52, H⟩ := H
        refine xt_callV (h2 := h) (as := [.int (xs (x3 + 1 : Int32).toNatClampNeg), .int (xs (x3 + 2 : Int32).toNatClampNeg)]) (st := []) dL_law_475 (mlL_57 rfl) rfl ho52.1 ⟨by rw [ho52.2]; rfl, by rw [ho52.2]; decide⟩ (by first | decide | (simp [Value.category]; done)) (Nat.le_refl _) H (fun r M53 HH hE => ?_)
        obtain ⟨r54, hr, H⟩ := HH hE
        subst hr
        have ho49 := ok_E ho49 hE
        have ho52 := ok_E ho52 hE
        show T _ _ _ _ [.int r54] _ _
        refine xt_pop dL_law_478 rfl ?_
        refine xt_goto (tgt := 1023) dL_law_479 (by decide) ?_
        exact xt_sub [0, 1, 2, 3] rfl (VL_law_1023 H)
      · have hx : ((xs (x3 : Int32).toNatClampNeg) &&& 31) = 10 := i32_ofInt hv
        have H := H.2.2.2.2.2.2.2.2.2.2.1 hx
        refine xt_tableIn (tgt := 482) dL_law_33 (by omega) (by omega) (by rw [hv]; rfl) (by decide) ?_
        refine xt_aload_n (j := 1) dL_law_482 rfl rfl ?_
        refine xt_aload_n (j := 0) dL_law_483 rfl rfl ?_
        refine xt_iload_n (j := 3) dL_law_484 rfl rfl ?_
        refine xt_iconst (v := 1) dL_law_485 (by decide) ?_
        refine xt_iadd dL_law_486 ?_
        obtain ⟨hi, H⟩ := H
        refine xt_sld dL_law_487 hi ?_
        refine xt_aload_n (j := 0) dL_law_488 rfl rfl ?_
        refine xt_iload_n (j := 3) dL_law_489 rfl rfl ?_
        refine xt_iconst (v := 2) dL_law_490 (by decide) ?_
        refine xt_iadd dL_law_491 ?_
        obtain ⟨hi, H⟩ := H
        refine xt_sld dL_law_492 hi ?_
        obtain ⟨ho55, H⟩ := H
        refine xt_callV (h2 := h) (as := [.int (xs (x3 + 1 : Int32).toNatClampNeg), .int (xs (x3 + 2 : Int32).toNatClampNeg)]) (st := []) dL_law_493 (mlL_58 rfl) rfl ho55.1 ⟨by rw [ho55.2]; rfl, by rw [ho55.2]; decide⟩ (by first | decide | (simp [Value.category]; done)) (Nat.le_refl _) H (fun r M56 HH hE => ?_)
        obtain ⟨r57, hr, H⟩ := HH hE
        subst hr
        have ho55 := ok_E ho55 hE
        show T _ _ _ _ [.int r57] _ _
        refine xt_pop dL_law_496 rfl ?_
        refine xt_aload_n (j := 2) dL_law_497 rfl rfl ?_
        refine xt_aload_n (j := 0) dL_law_498 rfl rfl ?_
        refine xt_iload_n (j := 3) dL_law_499 rfl rfl ?_
        refine xt_iconst (v := 1) dL_law_500 (by decide) ?_
        refine xt_iadd dL_law_501 ?_
        obtain ⟨hi, H⟩ := H
        refine xt_sld dL_law_502 hi ?_
        refine xt_aload_n (j := 0) dL_law_503 rfl rfl ?_
        refine xt_iload_n (j := 3) dL_law_504 rfl rfl ?_
        refine xt_iconst (v := 2) dL_law_505 (by decide) ?_
        refine xt_iadd dL_law_506 ?_
        obtain ⟨hi, H⟩ := H
        refine xt_sld dL_law_507 hi ?_
        obtain ⟨ho58, H⟩ := H
        refine xt_callV (h2 := h) (as := [.int (xs (x3 + 1 : Int32).toNatClampNeg), .int (xs (x3 + 2 : Int32).toNatClampNeg)]) (st := []) dL_law_508 (mlL_61 rfl) rfl ho58.1 ⟨by rw [ho58.2]; rfl, by rw [ho58.2]; decide⟩ (by first | decide | (simp [Value.category]; done)) (Nat.le_refl _) H (fun r M59 HH hE => ?_)
        obtain ⟨r60, hr, H⟩ := HH hE
        subst hr
        have ho55 := ok_E ho55 hE
        have ho58 := ok_E ho58 hE
        show T _ _ _ _ [.int r60] _ _
        refine xt_pop dL_law_511 rfl ?_
        refine xt_goto (tgt := 1023) dL_law_512 (by decide) ?_
        exact xt_sub [0, 1, 2, 3] rfl (VL_law_1023 H)
      · have hx : ((xs (x3 : Int32).toNatClampNeg) &&& 31) = 11 := i32_ofInt hv
        have H := H.2.2.2.2.2.2.2.2.2.2.2.1 hx
        refine xt_tableIn (tgt := 515) dL_law_33 (by omega) (by omega) (by rw [hv]; rfl) (by decide) ?_
        refine xt_aload_n (j := 1) dL_law_515 rfl rfl ?_
        refine xt_aload_n (j := 0) dL_law_516 rfl rfl ?_
        refine xt_iload_n (j := 3) dL_law_517 rfl rfl ?_
        refine xt_iconst (v := 1) dL_law_518 (by decide) ?_
        refine xt_iadd dL_law_519 ?_
        obtain ⟨hi, H⟩ := H
        refine xt_sld dL_law_520 hi ?_
        refine xt_aload_n (j := 0) dL_law_521 rfl rfl ?_
        refine xt_iload_n (j := 3) dL_law_522 rfl rfl ?_
        refine xt_iconst (v := 2) dL_law_523 (by decide) ?_
        refine xt_iadd dL_law_524 ?_
        obtain ⟨hi, H⟩ := H
        refine xt_sld dL_law_525 hi ?_
        obtain ⟨ho61, H⟩ := H
        refine xt_callV (h2 := h) (as := [.int (xs (x3 + 1 : Int32).toNatClampNeg), .int (xs (x3 + 2 : Int32).toNatClampNeg)]) (st := []) dL_law_526 (mlL_62 rfl) rfl ho61.1 ⟨by rw [ho61.2]; rfl, by rw [ho61.2]; decide⟩ (by first | decide | (simp [Value.category]; done)) (Nat.le_refl _) H (fun r M62 HH hE => ?_)
        obtain ⟨r63, hr, H⟩ := HH hE
        subst hr
        have ho61 := ok_E ho61 hE
        show T _ _ _ _ [.int r63] _ _
        refine xt_pop dL_law_529 rfl ?_
        refine xt_aload_n (j := 2) dL_law_530 rfl rfl ?_
        refine xt_aload_n (j := 0) dL_law_531 rfl rfl ?_
        refine xt_iload_n (j := 3) dL_law_532 rfl rfl ?_
        refine xt_iconst (v := 1) dL_law_533 (by decide) ?_
        refine xt_iadd dL_law_534 ?_
        obtain ⟨hi, H⟩ := H
        refine xt_sld dL_law_535 hi ?_
        refine xt_aload_n (j := 0) dL_law_536 rfl rfl ?_
        refine xt_iload_n (j := 3) dL_law_537 rfl rfl ?_
        refine xt_iconst (v := 2) dL_law_538 (by decide) ?_
        refine xt_iadd dL_law_539 ?_
        obtain ⟨hi, H⟩ := H
        refine xt_sld dL_law_540 hi ?_
        obtain ⟨ho64, H⟩ := H
        refine xt_callV (h2 := h) (as := [.int (xs (x3 + 1 : Int32).toNatClampNeg), .int (xs (x3 + 2 : Int32).toNatClampNeg)]) (st := []) dL_law_541 (mlL_65 rfl) rfl ho64.1 ⟨by rw [ho64.2]; rfl, by rw [ho64.2]; decide⟩ (by first | decide | (simp [Value.category]; done)) (Nat.le_refl _) H (fun r M65 HH hE => ?_)
        obtain ⟨r66, hr, H⟩ := HH hE
        subst hr
        have ho61 := ok_E ho61 hE
        have ho64 := ok_E ho64 hE
        show T _ _ _ _ [.int r66] _ _
        refine xt_pop dL_law_544 rfl ?_
        refine xt_goto (tgt := 1023) dL_law_545 (by decide) ?_
        exact xt_sub [0, 1, 2, 3] rfl (VL_law_1023 H)
      · have hx : ((xs (x3 : Int32).toNatClampNeg) &&& 31) = 12 := i32_ofInt hv
        have H := H.2.2.2.2.2.2.2.2.2.2.2.2.1 hx
        refine xt_tableIn (tgt := 548) dL_law_33 (by omega) (by omega) (by rw [hv]; rfl) (by decide) ?_
        refine xt_aload_n (j := 1) dL_law_548 rfl rfl ?_
        refine xt_aload_n (j := 0) dL_law_549 rfl rfl ?_
        refine xt_iload_n (j := 3) dL_law_550 rfl rfl ?_
        refine xt_iconst (v := 1) dL_law_551 (by decide) ?_
        refine xt_iadd dL_law_552 ?_
        obtain ⟨hi, H⟩ := H
        refine xt_sld dL_law_553 hi ?_
        refine xt_aload_n (j := 0) dL_law_554 rfl rfl ?_
        refine xt_iload_n (j := 3) dL_law_555 rfl rfl ?_
        refine xt_iconst (v := 2) dL_law_556 (by decide) ?_
        refine xt_iadd dL_law_557 ?_
        obtain ⟨hi, H⟩ := H
        refine xt_sld dL_law_558 hi ?_
        refine xt_aload_n (j := 0) dL_law_559 rfl rfl ?_
        refine xt_iload_n (j := 3) dL_law_560 rfl rfl ?_
        refine xt_iconst (v := 3) dL_law_561 (by decide) ?_
        refine xt_iadd dL_law_562 ?_
        obtain ⟨hi, H⟩ := H
        refine xt_sld dL_law_563 hi ?_
        obtain ⟨ho67, H⟩ := H
        refine xt_callV (h2 := h) (as := [.int (xs (x3 + 1 : Int32).toNatClampNeg), .int (xs (x3 + 2 : Int32).toNatClampNeg), .int (xs (x3 + 3 : Int32).toNatClampNeg)]) (st := []) dL_law_564 (mlL_66 rfl) rfl ho67.1 ⟨by rw [ho67.2]; rfl, by rw [ho67.2]; decide⟩ (by first | decide | (simp [Value.category]; done)) (Nat.le_refl _) H (fun r M68 HH hE => ?_)
        obtain ⟨r69, hr, H⟩ := HH hE
        subst hr
        have ho67 := ok_E ho67 hE
        show T _ _ _ _ [.int r69] _ _
        refine xt_pop dL_law_567 rfl ?_
        refine xt_aload_n (j := 2) dL_law_568 rfl rfl ?_
        refine xt_aload_n (j := 0) dL_law_569 rfl rfl ?_
        refine xt_iload_n (j := 3) dL_law_570 rfl rfl ?_
        refine xt_iconst (v := 1) dL_law_571 (by decide) ?_
        refine xt_iadd dL_law_572 ?_
        obtain ⟨hi, H⟩ := H
        refine xt_sld dL_law_573 hi ?_
        refine xt_aload_n (j := 0) dL_law_574 rfl rfl ?_
        refine xt_iload_n (j := 3) dL_law_575 rfl rfl ?_
        refine xt_iconst (v := 2) dL_law_576 (by decide) ?_
        refine xt_iadd dL_law_577 ?_
        obtain ⟨hi, H⟩ := H
        refine xt_sld dL_law_578 hi ?_
        refine xt_aload_n (j := 0) dL_law_579 rfl rfl ?_
        refine xt_iload_n (j := 3) dL_law_580 rfl rfl ?_
        refine xt_iconst (v := 3) dL_law_581 (by decide) ?_
        refine xt_iadd dL_law_582 ?_
        obtain ⟨hi, H⟩ := H
        refine xt_sld dL_law_583 hi ?_
        obtain ⟨ho70, H⟩ := H
        refine xt_callV (h2 := h) (as := [.int (xs (x3 + 1 : Int32).toNatClampNeg), .int (xs (x3 + 2 : Int32).toNatClampNeg), .int (xs (x3 + 3 : Int32).toNatClampNeg)]) (st := []) dL_law_584 (mlL_70 rfl) rfl ho70.1 ⟨by rw [ho70.2]; rfl, by rw [ho70.2]; decide⟩ (by first | decide | (simp [Value.category]; done)) (Nat.le_refl _) H (fun r M71 HH hE => ?_)
        obtain ⟨r72, hr, H⟩ := HH hE
        subst hr
        have ho67 := ok_E ho67 hE
        have ho70 := ok_E ho70 hE
        show T _ _ _ _ [.int r72] _ _
        refine xt_pop dL_law_587 rfl ?_
        refine xt_goto (tgt := 1023) dL_law_588 (by decide) ?_
        exact xt_sub [0, 1, 2, 3] rfl (VL_law_1023 H)
      · have hx : ((xs (x3 : Int32).toNatClampNeg) &&& 31) = 13 := i32_ofInt hv
        have H := H.2.2.2.2.2.2.2.2.2.2.2.2.2.1 hx
        refine xt_tableIn (tgt := 591) dL_law_33 (by omega) (by omega) (by rw [hv]; rfl) (by decide) ?_
        refine xt_aload_n (j := 1) dL_law_591 rfl rfl ?_
        refine xt_aload_n (j := 0) dL_law_592 rfl rfl ?_
        refine xt_iload_n (j := 3) dL_law_593 rfl rfl ?_
        refine xt_iconst (v := 1) dL_law_594 (by decide) ?_
        refine xt_iadd dL_law_595 ?_
        obtain ⟨hi, H⟩ := H
        refine xt_sld dL_law_596 hi ?_
        refine xt_aload_n (j := 0) dL_law_597 rfl rfl ?_
        refine xt_iload_n (j := 3) dL_law_598 rfl rfl ?_
        refine xt_iconst (v := 2) dL_law_599 (by decide) ?_
        refine xt_iadd dL_law_600 ?_
        obtain ⟨hi, H⟩ := H
        refine xt_sld dL_law_601 hi ?_
        obtain ⟨ho73, H⟩ := H
        refine xt_callV (h2 := h) (as := [.int (xs (x3 + 1 : Int32).toNatClampNeg), .int (xs (x3 + 2 : Int32).toNatClampNeg)]) (st := []) dL_law_602 (mlL_71 rfl) rfl ho73.1 ⟨by rw [ho73.2]; rfl, by rw [ho73.2]; decide⟩ (by first | decide | (simp [Value.category]; done)) (Nat.le_refl _) H (fun r M74 HH hE => ?_)
        obtain ⟨r75, hr, H⟩ := HH hE
        subst hr
        have ho73 := ok_E ho73 hE
        show T _ _ _ _ [.int r75] _ _
        refine xt_pop dL_law_605 rfl ?_
        refine xt_aload_n (j := 2) dL_law_606 rfl rfl ?_
        refine xt_aload_n (j := 0) dL_law_607 rfl rfl ?_
        refine xt_iload_n (j := 3) dL_law_608 rfl rfl ?_
        refine xt_iconst (v := 1) dL_law_609 (by decide) ?_
        refine xt_iadd dL_law_610 ?_
        obtain ⟨hi, H⟩ := H
        refine xt_sld dL_law_611 hi ?_
        refine xt_aload_n (j := 0) dL_law_612 rfl rfl ?_
        refine xt_iload_n (j := 3) dL_law_613 rfl rfl ?_
        refine xt_iconst (v := 2) dL_law_614 (by decide) ?_
        refine xt_iadd dL_law_615 ?_
        obtain ⟨hi, H⟩ := H
        refine xt_sld dL_law_616 hi ?_
        obtain ⟨ho76, H⟩ := H
        refine xt_callV (h2 := h) (as := [.int (xs (x3 + 1 : Int32).toNatClampNeg), .int (xs (x3 + 2 : Int32).toNatClampNeg)]) (st := []) dL_law_617 (mlL_74 rfl) rfl ho76.1 ⟨by rw [ho76.2]; rfl, by rw [ho76.2]; decide⟩ (by first | decide | (simp [Value.category]; done)) (Nat.le_refl _) H (fun r M77 HH hE => ?_)
        obtain ⟨r78, hr, H⟩ := HH hE
        subst hr
        have ho73 := ok_E ho73 hE
        have ho76 := ok_E ho76 hE
        show T _ _ _ _ [.int r78] _ _
        refine xt_pop dL_law_620 rfl ?_
        refine xt_goto (tgt := 1023) dL_law_621 (by decide) ?_
        exact xt_sub [0, 1, 2, 3] rfl (VL_law_1023 H)
      · have hx : ((xs (x3 : Int32).toNatClampNeg) &&& 31) = 14 := i32_ofInt hv
        have H := H.2.2.2.2.2.2.2.2.2.2.2.2.2.2.1 hx
        refine xt_tableIn (tgt := 624) dL_law_33 (by omega) (by omega) (by rw [hv]; rfl) (by decide) ?_
        refine xt_aload_n (j := 1) dL_law_624 rfl rfl ?_
        refine xt_aload_n (j := 0) dL_law_625 rfl rfl ?_
        refine xt_iload_n (j := 3) dL_law_626 rfl rfl ?_
        refine xt_iconst (v := 1) dL_law_627 (by decide) ?_
        refine xt_iadd dL_law_628 ?_
        obtain ⟨hi, H⟩ := H
        refine xt_sld dL_law_629 hi ?_
        refine xt_aload_n (j := 0) dL_law_630 rfl rfl ?_
        refine xt_iload_n (j := 3) dL_law_631 rfl rfl ?_
        refine xt_iconst (v := 2) dL_law_632 (by decide) ?_
        refine xt_iadd dL_law_633 ?_
        obtain ⟨hi, H⟩ := H
        refine xt_sld dL_law_634 hi ?_
        obtain ⟨ho79, H⟩ := H
        refine xt_callV (h2 := h) (as := [.int (xs (x3 + 1 : Int32).toNatClampNeg), .int (xs (x3 + 2 : Int32).toNatClampNeg)]) (st := []) dL_law_635 (mlL_75 rfl) rfl ho79.1 ⟨by rw [ho79.2]; rfl, by rw [ho79.2]; decide⟩ (by first | decide | (simp [Value.category]; done)) (Nat.le_refl _) H (fun r M80 HH hE => ?_)
        obtain ⟨r81, hr, H⟩ := HH hE
        subst hr
        have ho79 := ok_E ho79 hE
        show T _ _ _ _ [.int r81] _ _
        refine xt_pop dL_law_638 rfl ?_
        refine xt_aload_n (j := 2) dL_law_639 rfl rfl ?_
        refine xt_aload_n (j := 0) dL_law_640 rfl rfl ?_
        refine xt_iload_n (j := 3) dL_law_641 rfl rfl ?_
        refine xt_iconst (v := 1) dL_law_642 (by decide) ?_
        refine xt_iadd dL_law_643 ?_
        obtain ⟨hi, H⟩ := H
        refine xt_sld dL_law_644 hi ?_
        refine xt_aload_n (j := 0) dL_law_645 rfl rfl ?_
        refine xt_iload_n (j := 3) dL_law_646 rfl rfl ?_
        refine xt_iconst (v := 2) dL_law_647 (by decide) ?_
        refine xt_iadd dL_law_648 ?_
        obtain ⟨hi, H⟩ := H
        refine xt_sld dL_law_649 hi ?_
        obtain ⟨ho82, H⟩ := H
        refine xt_callV (h2 := h) (as := [.int (xs (x3 + 1 : Int32).toNatClampNeg), .int (xs (x3 + 2 : Int32).toNatClampNeg)]) (st := []) dL_law_650 (mlL_78 rfl) rfl ho82.1 ⟨by rw [ho82.2]; rfl, by rw [ho82.2]; decide⟩ (by first | decide | (simp [Value.category]; done)) (Nat.le_refl _) H (fun r M83 HH hE => ?_)
        obtain ⟨r84, hr, H⟩ := HH hE
        subst hr
        have ho79 := ok_E ho79 hE
        have ho82 := ok_E ho82 hE
        show T _ _ _ _ [.int r84] _ _
        refine xt_pop dL_law_653 rfl ?_
        refine xt_goto (tgt := 1023) dL_law_654 (by decide) ?_
        exact xt_sub [0, 1, 2, 3] rfl (VL_law_1023 H)
      · have hx : ((xs (x3 : Int32).toNatClampNeg) &&& 31) = 15 := i32_ofInt hv
        have H := H.2.2.2.2.2.2.2.2.2.2.2.2.2.2.2.1 hx
        refine xt_tableIn (tgt := 657) dL_law_33 (by omega) (by omega) (by rw [hv]; rfl) (by decide) ?_
        refine xt_aload_n (j := 1) dL_law_657 rfl rfl ?_
        refine xt_aload_n (j := 0) dL_law_658 rfl rfl ?_
        refine xt_iload_n (j := 3) dL_law_659 rfl rfl ?_
        refine xt_iconst (v := 1) dL_law_660 (by decide) ?_
        refine xt_iadd dL_law_661 ?_
        obtain ⟨hi, H⟩ := H
        refine xt_sld dL_law_662 hi ?_
        obtain ⟨ho85, H⟩ := H
        refine xt_callV (h2 := h) (as := [.int (xs (x3 + 1 : Int32).toNatClampNeg)]) (st := []) dL_law_663 (mlL_79 rfl) rfl ho85.1 ⟨by rw [ho85.2]; rfl, by rw [ho85.2]; decide⟩ (by first | decide | (simp [Value.category]; done)) (Nat.le_refl _) H (fun r M86 HH hE => ?_)
        obtain ⟨r87, hr, H⟩ := HH hE
        subst hr
        have ho85 := ok_E ho85 hE
        show T _ _ _ _ [.int r87] _ _
        refine xt_pop dL_law_666 rfl ?_
        refine xt_aload_n (j := 2) dL_law_667 rfl rfl ?_
        refine xt_aload_n (j := 0) dL_law_668 rfl rfl ?_
        refine xt_iload_n (j := 3) dL_law_669 rfl rfl ?_
        refine xt_iconst (v := 1) dL_law_670 (by decide) ?_
        refine xt_iadd dL_law_671 ?_
        obtain ⟨hi, H⟩ := H
        refine xt_sld dL_law_672 hi ?_
        obtain ⟨ho88, H⟩ := H
        refine xt_callV (h2 := h) (as := [.int (xs (x3 + 1 : Int32).toNatClampNeg)]) (st := []) dL_law_673 (mlL_82 rfl) rfl ho88.1 ⟨by rw [ho88.2]; rfl, by rw [ho88.2]; decide⟩ (by first | decide | (simp [Value.category]; done)) (Nat.le_refl _) H (fun r M89 HH hE => ?_)
        obtain ⟨r90, hr, H⟩ := HH hE
        subst hr
        have ho85 := ok_E ho85 hE
        have ho88 := ok_E ho88 hE
        show T _ _ _ _ [.int r90] _ _
        refine xt_pop dL_law_676 rfl ?_
        refine xt_goto (tgt := 1023) dL_law_677 (by decide) ?_
        exact xt_sub [0, 1, 2, 3] rfl (VL_law_1023 H)
      · have hx : ((xs (x3 : Int32).toNatClampNeg) &&& 31) = 16 := i32_ofInt hv
        have H := H.2.2.2.2.2.2.2.2.2.2.2.2.2.2.2.2.1 hx
        refine xt_tableIn (tgt := 680) dL_law_33 (by omega) (by omega) (by rw [hv]; rfl) (by decide) ?_
        refine xt_aload_n (j := 1) dL_law_680 rfl rfl ?_
        refine xt_aload_n (j := 0) dL_law_681 rfl rfl ?_
        refine xt_iload_n (j := 3) dL_law_682 rfl rfl ?_
        refine xt_iconst (v := 1) dL_law_683 (by decide) ?_
        refine xt_iadd dL_law_684 ?_
        obtain ⟨hi, H⟩ := H
        refine xt_sld dL_law_685 hi ?_
        obtain ⟨ho91, H⟩ := H
        refine xt_callV (h2 := h) (as := [.int (xs (x3 + 1 : Int32).toNatClampNeg)]) (st := []) dL_law_686 (mlL_83 rfl) rfl ho91.1 ⟨by rw [ho91.2]; rfl, by rw [ho91.2]; decide⟩ (by first | decide | (simp [Value.category]; done)) (Nat.le_refl _) H (fun r M92 HH hE => ?_)
        obtain ⟨r93, hr, H⟩ := HH hE
        subst hr
        have ho91 := ok_E ho91 hE
        show T _ _ _ _ [.int r93] _ _
        refine xt_pop dL_law_689 rfl ?_
        refine xt_aload_n (j := 2) dL_law_690 rfl rfl ?_
        refine xt_aload_n (j := 0) dL_law_691 rfl rfl ?_
        refine xt_iload_n (j := 3) dL_law_692 rfl rfl ?_
        refine xt_iconst (v := 1) dL_law_693 (by decide) ?_
        refine xt_iadd dL_law_694 ?_
        obtain ⟨hi, H⟩ := H
        refine xt_sld dL_law_695 hi ?_
        obtain ⟨ho94, H⟩ := H
        refine xt_callV (h2 := h) (as := [.int (xs (x3 + 1 : Int32).toNatClampNeg)]) (st := []) dL_law_696 (mlL_86 rfl) rfl ho94.1 ⟨by rw [ho94.2]; rfl, by rw [ho94.2]; decide⟩ (by first | decide | (simp [Value.category]; done)) (Nat.le_refl _) H (fun r M95 HH hE => ?_)
        obtain ⟨r96, hr, H⟩ := HH hE
        subst hr
        have ho91 := ok_E ho91 hE
        have ho94 := ok_E ho94 hE
        show T _ _ _ _ [.int r96] _ _
        refine xt_pop dL_law_699 rfl ?_
        refine xt_goto (tgt := 1023) dL_law_700 (by decide) ?_
        exact xt_sub [0, 1, 2, 3] rfl (VL_law_1023 H)
      · have hx : ((xs (x3 : Int32).toNatClampNeg) &&& 31) = 17 := i32_ofInt hv
        have H := H.2.2.2.2.2.2.2.2.2.2.2.2.2.2.2.2.2.1 hx
        refine xt_tableIn (tgt := 703) dL_law_33 (by omega) (by omega) (by rw [hv]; rfl) (by decide) ?_
        refine xt_aload_n (j := 1) dL_law_703 rfl rfl ?_
        refine xt_aload_n (j := 0) dL_law_704 rfl rfl ?_
        refine xt_iload_n (j := 3) dL_law_705 rfl rfl ?_
        refine xt_iconst (v := 1) dL_law_706 (by decide) ?_
        refine xt_iadd dL_law_707 ?_
        obtain ⟨hi, H⟩ := H
        refine xt_sld dL_law_708 hi ?_
        refine xt_aload_n (j := 0) dL_law_709 rfl rfl ?_
        refine xt_iload_n (j := 3) dL_law_710 rfl rfl ?_
        refine xt_iconst (v := 2) dL_law_711 (by decide) ?_
        refine xt_iadd dL_law_712 ?_
        obtain ⟨hi, H⟩ := H
        refine xt_sld dL_law_713 hi ?_
        obtain ⟨ho97, H⟩ := H
        refine xt_callV (h2 := h) (as := [.int (xs (x3 + 1 : Int32).toNatClampNeg), .int (xs (x3 + 2 : Int32).toNatClampNeg)]) (st := []) dL_law_714 (mlL_87 rfl) rfl ho97.1 ⟨by rw [ho97.2]; rfl, by rw [ho97.2]; decide⟩ (by first | decide | (simp [Value.category]; done)) (Nat.le_refl _) H (fun r M98 HH hE => ?_)
        obtain ⟨r99, hr, H⟩ := HH hE
        subst hr
        have ho97 := ok_E ho97 hE
        show T _ _ _ _ [.int r99] _ _
        refine xt_pop dL_law_717 rfl ?_
        refine xt_aload_n (j := 2) dL_law_718 rfl rfl ?_
        refine xt_aload_n (j := 0) dL_law_719 rfl rfl ?_
        refine xt_iload_n (j := 3) dL_law_720 rfl rfl ?_
        refine xt_iconst (v := 1) dL_law_721 (by decide) ?_
        refine xt_iadd dL_law_722 ?_
        obtain ⟨hi, H⟩ := H
        refine xt_sld dL_law_723 hi ?_
        refine xt_aload_n (j := 0) dL_law_724 rfl rfl ?_
        refine xt_iload_n (j := 3) dL_law_725 rfl rfl ?_
        refine xt_iconst (v := 2) dL_law_726 (by decide) ?_
        refine xt_iadd dL_law_727 ?_
        obtain ⟨hi, H⟩ := H
        refine xt_sld dL_law_728 hi ?_
        obtain ⟨ho100, H⟩ := H
        refine xt_callV (h2 := h) (as := [.int (xs (x3 + 1 : Int32).toNatClampNeg), .int (xs (x3 + 2 : Int32).toNatClampNeg)]) (st := []) dL_law_729 (mlL_90 rfl) rfl ho100.1 ⟨by rw [ho100.2]; rfl, by rw [ho100.2]; decide⟩ (by first | decide | (simp [Value.category]; done)) (Nat.le_refl _) H (fun r M101 HH hE => ?_)
        obtain ⟨r102, hr, H⟩ := HH hE
        subst hr
        have ho97 := ok_E ho97 hE
        have ho100 := ok_E ho100 hE
        show T _ _ _ _ [.int r102] _ _
        refine xt_pop dL_law_732 rfl ?_
        refine xt_goto (tgt := 1023) dL_law_733 (by decide) ?_
        exact xt_sub [0, 1, 2, 3] rfl (VL_law_1023 H)
      · have hx : ((xs (x3 : Int32).toNatClampNeg) &&& 31) = 18 := i32_ofInt hv
        have H := H.2.2.2.2.2.2.2.2.2.2.2.2.2.2.2.2.2.2.1 hx
        refine xt_tableIn (tgt := 736) dL_law_33 (by omega) (by omega) (by rw [hv]; rfl) (by decide) ?_
        refine xt_aload_n (j := 1) dL_law_736 rfl rfl ?_
        refine xt_aload_n (j := 0) dL_law_737 rfl rfl ?_
        refine xt_iload_n (j := 3) dL_law_738 rfl rfl ?_
        refine xt_iconst (v := 1) dL_law_739 (by decide) ?_
        refine xt_iadd dL_law_740 ?_
        obtain ⟨hi, H⟩ := H
        refine xt_sld dL_law_741 hi ?_
        obtain ⟨ho103, H⟩ := H
        refine xt_callV (h2 := h) (as := [.int (xs (x3 + 1 : Int32).toNatClampNeg)]) (st := []) dL_law_742 (mlL_91 rfl) rfl ho103.1 ⟨by rw [ho103.2]; rfl, by rw [ho103.2]; decide⟩ (by first | decide | (simp [Value.category]; done)) (Nat.le_refl _) H (fun r M104 HH hE => ?_)
        obtain ⟨r105, hr, H⟩ := HH hE
        subst hr
        have ho103 := ok_E ho103 hE
        show T _ _ _ _ [.int r105] _ _
        refine xt_pop dL_law_745 rfl ?_
        refine xt_aload_n (j := 2) dL_law_746 rfl rfl ?_
        refine xt_aload_n (j := 0) dL_law_747 rfl rfl ?_
        refine xt_iload_n (j := 3) dL_law_748 rfl rfl ?_
        refine xt_iconst (v := 1) dL_law_749 (by decide) ?_
        refine xt_iadd dL_law_750 ?_
        obtain ⟨hi, H⟩ := H
        refine xt_sld dL_law_751 hi ?_
        obtain ⟨ho106, H⟩ := H
        refine xt_callV (h2 := h) (as := [.int (xs (x3 + 1 : Int32).toNatClampNeg)]) (st := []) dL_law_752 (mlL_94 rfl) rfl ho106.1 ⟨by rw [ho106.2]; rfl, by rw [ho106.2]; decide⟩ (by first | decide | (simp [Value.category]; done)) (Nat.le_refl _) H (fun r M107 HH hE => ?_)
        obtain ⟨r108, hr, H⟩ := HH hE
        subst hr
        have ho103 := ok_E ho103 hE
        have ho106 := ok_E ho106 hE
        show T _ _ _ _ [.int r108] _ _
        refine xt_pop dL_law_755 rfl ?_
        refine xt_goto (tgt := 1023) dL_law_756 (by decide) ?_
        exact xt_sub [0, 1, 2, 3] rfl (VL_law_1023 H)
      · have hx : ((xs (x3 : Int32).toNatClampNeg) &&& 31) = 19 := i32_ofInt hv
        have H := H.2.2.2.2.2.2.2.2.2.2.2.2.2.2.2.2.2.2.2.1 hx
        refine xt_tableIn (tgt := 759) dL_law_33 (by omega) (by omega) (by rw [hv]; rfl) (by decide) ?_
        refine xt_aload_n (j := 1) dL_law_759 rfl rfl ?_
        refine xt_aload_n (j := 0) dL_law_760 rfl rfl ?_
        refine xt_iload_n (j := 3) dL_law_761 rfl rfl ?_
        refine xt_iconst (v := 1) dL_law_762 (by decide) ?_
        refine xt_iadd dL_law_763 ?_
        obtain ⟨hi, H⟩ := H
        refine xt_sld dL_law_764 hi ?_
        refine xt_aload_n (j := 0) dL_law_765 rfl rfl ?_
        refine xt_iload_n (j := 3) dL_law_766 rfl rfl ?_
        refine xt_iconst (v := 2) dL_law_767 (by decide) ?_
        refine xt_iadd dL_law_768 ?_
        obtain ⟨hi, H⟩ := H
        refine xt_sld dL_law_769 hi ?_
        refine xt_aload_n (j := 0) dL_law_770 rfl rfl ?_
        refine xt_iload_n (j := 3) dL_law_771 rfl rfl ?_
        refine xt_iconst (v := 3) dL_law_772 (by decide) ?_
        refine xt_iadd dL_law_773 ?_
        obtain ⟨hi, H⟩ := H
        refine xt_sld dL_law_774 hi ?_
        refine xt_aload_n (j := 0) dL_law_775 rfl rfl ?_
        refine xt_iload_n (j := 3) dL_law_776 rfl rfl ?_
        refine xt_iconst (v := 4) dL_law_777 (by decide) ?_
        refine xt_iadd dL_law_778 ?_
        obtain ⟨hi, H⟩ := H
        refine xt_sld dL_law_779 hi ?_
        obtain ⟨ho109, H⟩ := H
        refine xt_callV (h2 := h) (as := [.int (xs (x3 + 1 : Int32).toNatClampNeg), .int (xs (x3 + 2 : Int32).toNatClampNeg), .int (xs (x3 + 3 : Int32).toNatClampNeg), .int (xs (x3 + 4 : Int32).toNatClampNeg)]) (st := []) dL_law_780 (mlL_95 rfl) rfl ho109.1 ⟨by rw [ho109.2]; rfl, by rw [ho109.2]; decide⟩ (by first | decide | (simp [Value.category]; done)) (Nat.le_refl _) H (fun r M110 HH hE => ?_)
        obtain ⟨r111, hr, H⟩ := HH hE
        subst hr
        have ho109 := ok_E ho109 hE
        show T _ _ _ _ [.int r111] _ _
        refine xt_pop dL_law_783 rfl ?_
        refine xt_aload_n (j := 2) dL_law_784 rfl rfl ?_
        refine xt_aload_n (j := 0) dL_law_785 rfl rfl ?_
        refine xt_iload_n (j := 3) dL_law_786 rfl rfl ?_
        refine xt_iconst (v := 1) dL_law_787 (by decide) ?_
        refine xt_iadd dL_law_788 ?_
        obtain ⟨hi, H⟩ := H
        refine xt_sld dL_law_789 hi ?_
        refine xt_aload_n (j := 0) dL_law_790 rfl rfl ?_
        refine xt_iload_n (j := 3) dL_law_791 rfl rfl ?_
        refine xt_iconst (v := 2) dL_law_792 (by decide) ?_
        refine xt_iadd dL_law_793 ?_
        obtain ⟨hi, H⟩ := H
        refine xt_sld dL_law_794 hi ?_
        refine xt_aload_n (j := 0) dL_law_795 rfl rfl ?_
        refine xt_iload_n (j := 3) dL_law_796 rfl rfl ?_
        refine xt_iconst (v := 3) dL_law_797 (by decide) ?_
        refine xt_iadd dL_law_798 ?_
        obtain ⟨hi, H⟩ := H
        refine xt_sld dL_law_799 hi ?_
        refine xt_aload_n (j := 0) dL_law_800 rfl rfl ?_
        refine xt_iload_n (j := 3) dL_law_801 rfl rfl ?_
        refine xt_iconst (v := 4) dL_law_802 (by decide) ?_
        refine xt_iadd dL_law_803 ?_
        obtain ⟨hi, H⟩ := H
        refine xt_sld dL_law_804 hi ?_
        obtain ⟨ho112, H⟩ := H
        refine xt_callV (h2 := h) (as := [.int (xs (x3 + 1 : Int32).toNatClampNeg), .int (xs (x3 + 2 : Int32).toNatClampNeg), .int (xs (x3 + 3 : Int32).toNatClampNeg), .int (xs (x3 + 4 : Int32).toNatClampNeg)]) (st := []) dL_law_805 (mlL_99 rfl) rfl ho112.1 ⟨by rw [ho112.2]; rfl, by rw [ho112.2]; decide⟩ (by first | decide | (simp [Value.category]; done)) (Nat.le_refl _) H (fun r M113 HH hE => ?_)
        obtain ⟨r114, hr, H⟩ := HH hE
        subst hr
        have ho109 := ok_E ho109 hE
        have ho112 := ok_E ho112 hE
        show T _ _ _ _ [.int r114] _ _
        refine xt_pop dL_law_808 rfl ?_
        refine xt_goto (tgt := 1023) dL_law_809 (by decide) ?_
        exact xt_sub [0, 1, 2, 3] rfl (VL_law_1023 H)
      · have hx : ((xs (x3 : Int32).toNatClampNeg) &&& 31) = 20 := i32_ofInt hv
        have H := H.2.2.2.2.2.2.2.2.2.2.2.2.2.2.2.2.2.2.2.2.1 hx
        refine xt_tableIn (tgt := 812) dL_law_33 (by omega) (by omega) (by rw [hv]; rfl) (by decide) ?_
        refine xt_aload_n (j := 1) dL_law_812 rfl rfl ?_
        refine xt_aload_n (j := 0) dL_law_813 rfl rfl ?_
        refine xt_iload_n (j := 3) dL_law_814 rfl rfl ?_
        refine xt_iconst (v := 1) dL_law_815 (by decide) ?_
        refine xt_iadd dL_law_816 ?_
        obtain ⟨hi, H⟩ := H
        refine xt_sld dL_law_817 hi ?_
        refine xt_aload_n (j := 0) dL_law_818 rfl rfl ?_
        refine xt_iload_n (j := 3) dL_law_819 rfl rfl ?_
        refine xt_iconst (v := 2) dL_law_820 (by decide) ?_
        refine xt_iadd dL_law_821 ?_
        obtain ⟨hi, H⟩ := H
        refine xt_sld dL_law_822 hi ?_
        obtain ⟨ho115, H⟩ := H
        refine xt_callV (h2 := h) (as := [.int (xs (x3 + 1 : Int32).toNatClampNeg), .int (xs (x3 + 2 : Int32).toNatClampNeg)]) (st := []) dL_law_823 (mlL_100 rfl) rfl ho115.1 ⟨by rw [ho115.2]; rfl, by rw [ho115.2]; decide⟩ (by first | decide | (simp [Value.category]; done)) (Nat.le_refl _) H (fun r M116 HH hE => ?_)
        obtain ⟨r117, hr, H⟩ := HH hE
        subst hr
        have ho115 := ok_E ho115 hE
        show T _ _ _ _ [.int r117] _ _
        refine xt_pop dL_law_826 rfl ?_
        refine xt_aload_n (j := 2) dL_law_827 rfl rfl ?_
        refine xt_aload_n (j := 0) dL_law_828 rfl rfl ?_
        refine xt_iload_n (j := 3) dL_law_829 rfl rfl ?_
        refine xt_iconst (v := 1) dL_law_830 (by decide) ?_
        refine xt_iadd dL_law_831 ?_
        obtain ⟨hi, H⟩ := H
        refine xt_sld dL_law_832 hi ?_
        refine xt_aload_n (j := 0) dL_law_833 rfl rfl ?_
        refine xt_iload_n (j := 3) dL_law_834 rfl rfl ?_
        refine xt_iconst (v := 2) dL_law_835 (by decide) ?_
        refine xt_iadd dL_law_836 ?_
        obtain ⟨hi, H⟩ := H
        refine xt_sld dL_law_837 hi ?_
        obtain ⟨ho118, H⟩ := H
        refine xt_callV (h2 := h) (as := [.int (xs (x3 + 1 : Int32).toNatClampNeg), .int (xs (x3 + 2 : Int32).toNatClampNeg)]) (st := []) dL_law_838 (mlL_103 rfl) rfl ho118.1 ⟨by rw [ho118.2]; rfl, by rw [ho118.2]; decide⟩ (by first | decide | (simp [Value.category]; done)) (Nat.le_refl _) H (fun r M119 HH hE => ?_)
        obtain ⟨r120, hr, H⟩ := HH hE
        subst hr
        have ho115 := ok_E ho115 hE
        have ho118 := ok_E ho118 hE
        show T _ _ _ _ [.int r120] _ _
        refine xt_pop dL_law_841 rfl ?_
        refine xt_goto (tgt := 1023) dL_law_842 (by decide) ?_
        exact xt_sub [0, 1, 2, 3] rfl (VL_law_1023 H)
      · have hx : ((xs (x3 : Int32).toNatClampNeg) &&& 31) = 21 := i32_ofInt hv
        have H := H.2.2.2.2.2.2.2.2.2.2.2.2.2.2.2.2.2.2.2.2.2.1 hx
        refine xt_tableIn (tgt := 845) dL_law_33 (by omega) (by omega) (by rw [hv]; rfl) (by decide) ?_
        refine xt_aload_n (j := 1) dL_law_845 rfl rfl ?_
        refine xt_aload_n (j := 0) dL_law_846 rfl rfl ?_
        refine xt_iload_n (j := 3) dL_law_847 rfl rfl ?_
        refine xt_iconst (v := 1) dL_law_848 (by decide) ?_
        refine xt_iadd dL_law_849 ?_
        obtain ⟨hi, H⟩ := H
        refine xt_sld dL_law_850 hi ?_
        refine xt_aload_n (j := 0) dL_law_851 rfl rfl ?_
        refine xt_iload_n (j := 3) dL_law_852 rfl rfl ?_
        refine xt_iconst (v := 2) dL_law_853 (by decide) ?_
        refine xt_iadd dL_law_854 ?_
        obtain ⟨hi, H⟩ := H
        refine xt_sld dL_law_855 hi ?_
        refine xt_aload_n (j := 0) dL_law_856 rfl rfl ?_
        refine xt_iload_n (j := 3) dL_law_857 rfl rfl ?_
        refine xt_iconst (v := 3) dL_law_858 (by decide) ?_
        refine xt_iadd dL_law_859 ?_
        obtain ⟨hi, H⟩ := H
        refine xt_sld dL_law_860 hi ?_
        obtain ⟨ho121, H⟩ := H
        refine xt_callV (h2 := h) (as := [.int (xs (x3 + 1 : Int32).toNatClampNeg), .int (xs (x3 + 2 : Int32).toNatClampNeg), .int (xs (x3 + 3 : Int32).toNatClampNeg)]) (st := []) dL_law_861 (mlL_104 rfl) rfl ho121.1 ⟨by rw [ho121.2]; rfl, by rw [ho121.2]; decide⟩ (by first | decide | (simp [Value.category]; done)) (Nat.le_refl _) H (fun r M122 HH hE => ?_)
        obtain ⟨r123, hr, H⟩ := HH hE
        subst hr
        have ho121 := ok_E ho121 hE
        show T _ _ _ _ [.int r123] _ _
        refine xt_pop dL_law_864 rfl ?_
        refine xt_aload_n (j := 2) dL_law_865 rfl rfl ?_
        refine xt_aload_n (j := 0) dL_law_866 rfl rfl ?_
        refine xt_iload_n (j := 3) dL_law_867 rfl rfl ?_
        refine xt_iconst (v := 1) dL_law_868 (by decide) ?_
        refine xt_iadd dL_law_869 ?_
        obtain ⟨hi, H⟩ := H
        refine xt_sld dL_law_870 hi ?_
        refine xt_aload_n (j := 0) dL_law_871 rfl rfl ?_
        refine xt_iload_n (j := 3) dL_law_872 rfl rfl ?_
        refine xt_iconst (v := 2) dL_law_873 (by decide) ?_
        refine xt_iadd dL_law_874 ?_
        obtain ⟨hi, H⟩ := H
        refine xt_sld dL_law_875 hi ?_
        refine xt_aload_n (j := 0) dL_law_876 rfl rfl ?_
        refine xt_iload_n (j := 3) dL_law_877 rfl rfl ?_
        refine xt_iconst (v := 3) dL_law_878 (by decide) ?_
        refine xt_iadd dL_law_879 ?_
        obtain ⟨hi, H⟩ := H
        refine xt_sld dL_law_880 hi ?_
        obtain ⟨ho124, H⟩ := H
        refine xt_callV (h2 := h) (as := [.int (xs (x3 + 1 : Int32).toNatClampNeg), .int (xs (x3 + 2 : Int32).toNatClampNeg), .int (xs (x3 + 3 : Int32).toNatClampNeg)]) (st := []) dL_law_881 (mlL_107 rfl) rfl ho124.1 ⟨by rw [ho124.2]; rfl, by rw [ho124.2]; decide⟩ (by first | decide | (simp [Value.category]; done)) (Nat.le_refl _) H (fun r M125 HH hE => ?_)
        obtain ⟨r126, hr, H⟩ := HH hE
        subst hr
        have ho121 := ok_E ho121 hE
        have ho124 := ok_E ho124 hE
        show T _ _ _ _ [.int r126] _ _
        refine xt_pop dL_law_884 rfl ?_
        refine xt_goto (tgt := 1023) dL_law_885 (by decide) ?_
        exact xt_sub [0, 1, 2, 3] rfl (VL_law_1023 H)
      · have hx : ((xs (x3 : Int32).toNatClampNeg) &&& 31) = 22 := i32_ofInt hv
        have H := H.2.2.2.2.2.2.2.2.2.2.2.2.2.2.2.2.2.2.2.2.2.2.1 hx
        refine xt_tableIn (tgt := 888) dL_law_33 (by omega) (by omega) (by rw [hv]; rfl) (by decide) ?_
        refine xt_aload_n (j := 1) dL_law_888 rfl rfl ?_
        refine xt_aload_n (j := 0) dL_law_889 rfl rfl ?_
        refine xt_iload_n (j := 3) dL_law_890 rfl rfl ?_
        refine xt_iconst (v := 1) dL_law_891 (by decide) ?_
        refine xt_iadd dL_law_892 ?_
        obtain ⟨hi, H⟩ := H
        refine xt_sld dL_law_893 hi ?_
        refine xt_aload_n (j := 0) dL_law_894 rfl rfl ?_
        refine xt_iload_n (j := 3) dL_law_895 rfl rfl ?_
        refine xt_iconst (v := 2) dL_law_896 (by decide) ?_
        refine xt_iadd dL_law_897 ?_
        obtain ⟨hi, H⟩ := H
        refine xt_sld dL_law_898 hi ?_
        obtain ⟨ho127, H⟩ := H
        refine xt_callV (h2 := h) (as := [.int (xs (x3 + 1 : Int32).toNatClampNeg), .int (xs (x3 + 2 : Int32).toNatClampNeg)]) (st := []) dL_law_899 (mlL_108 rfl) rfl ho127.1 ⟨by rw [ho127.2]; rfl, by rw [ho127.2]; decide⟩ (by first | decide | (simp [Value.category]; done)) (Nat.le_refl _) H (fun r M128 HH hE => ?_)
        obtain ⟨r129, hr, H⟩ := HH hE
        subst hr
        have ho127 := ok_E ho127 hE
        show T _ _ _ _ [.int r129] _ _
        refine xt_pop dL_law_902 rfl ?_
        refine xt_aload_n (j := 2) dL_law_903 rfl rfl ?_
        refine xt_aload_n (j := 0) dL_law_904 rfl rfl ?_
        refine xt_iload_n (j := 3) dL_law_905 rfl rfl ?_
        refine xt_iconst (v := 1) dL_law_906 (by decide) ?_
        refine xt_iadd dL_law_907 ?_
        obtain ⟨hi, H⟩ := H
        refine xt_sld dL_law_908 hi ?_
        refine xt_aload_n (j := 0) dL_law_909 rfl rfl ?_
        refine xt_iload_n (j := 3) dL_law_910 rfl rfl ?_
        refine xt_iconst (v := 2) dL_law_911 (by decide) ?_
        refine xt_iadd dL_law_912 ?_
        obtain ⟨hi, H⟩ := H
        refine xt_sld dL_law_913 hi ?_
        obtain ⟨ho130, H⟩ := H
        refine xt_callV (h2 := h) (as := [.int (xs (x3 + 1 : Int32).toNatClampNeg), .int (xs (x3 + 2 : Int32).toNatClampNeg)]) (st := []) dL_law_914 (mlL_111 rfl) rfl ho130.1 ⟨by rw [ho130.2]; rfl, by rw [ho130.2]; decide⟩ (by first | decide | (simp [Value.category]; done)) (Nat.le_refl _) H (fun r M131 HH hE => ?_)
        obtain ⟨r132, hr, H⟩ := HH hE
        subst hr
        have ho127 := ok_E ho127 hE
        have ho130 := ok_E ho130 hE
        show T _ _ _ _ [.int r132] _ _
        refine xt_pop dL_law_917 rfl ?_
        refine xt_goto (tgt := 1023) dL_law_918 (by decide) ?_
        exact xt_sub [0, 1, 2, 3] rfl (VL_law_1023 H)
      · have hx : ((xs (x3 : Int32).toNatClampNeg) &&& 31) = 23 := i32_ofInt hv
        have H := H.2.2.2.2.2.2.2.2.2.2.2.2.2.2.2.2.2.2.2.2.2.2.2.1 hx
        refine xt_tableIn (tgt := 921) dL_law_33 (by omega) (by omega) (by rw [hv]; rfl) (by decide) ?_
        refine xt_aload_n (j := 1) dL_law_921 rfl rfl ?_
        refine xt_aload_n (j := 0) dL_law_922 rfl rfl ?_
        refine xt_iload_n (j := 3) dL_law_923 rfl rfl ?_
        refine xt_iconst (v := 1) dL_law_924 (by decide) ?_
        refine xt_iadd dL_law_925 ?_
        obtain ⟨hi, H⟩ := H
        refine xt_sld dL_law_926 hi ?_
        refine xt_aload_n (j := 0) dL_law_927 rfl rfl ?_
        refine xt_iload_n (j := 3) dL_law_928 rfl rfl ?_
        refine xt_iconst (v := 2) dL_law_929 (by decide) ?_
        refine xt_iadd dL_law_930 ?_
        obtain ⟨hi, H⟩ := H
        refine xt_sld dL_law_931 hi ?_
        refine xt_aload_n (j := 0) dL_law_932 rfl rfl ?_
        refine xt_iload_n (j := 3) dL_law_933 rfl rfl ?_
        refine xt_iconst (v := 3) dL_law_934 (by decide) ?_
        refine xt_iadd dL_law_935 ?_
        obtain ⟨hi, H⟩ := H
        refine xt_sld dL_law_936 hi ?_
        obtain ⟨ho133, H⟩ := H
        refine xt_callV (h2 := h) (as := [.int (xs (x3 + 1 : Int32).toNatClampNeg), .int (xs (x3 + 2 : Int32).toNatClampNeg), .int (xs (x3 + 3 : Int32).toNatClampNeg)]) (st := []) dL_law_937 (mlL_112 rfl) rfl ho133.1 ⟨by rw [ho133.2]; rfl, by rw [ho133.2]; decide⟩ (by first | decide | (simp [Value.category]; done)) (Nat.le_refl _) H (fun r M134 HH hE => ?_)
        obtain ⟨r135, hr, H⟩ := HH hE
        subst hr
        have ho133 := ok_E ho133 hE
        show T _ _ _ _ [.int r135] _ _
        refine xt_pop dL_law_940 rfl ?_
        refine xt_aload_n (j := 2) dL_law_941 rfl rfl ?_
        refine xt_aload_n (j := 0) dL_law_942 rfl rfl ?_
        refine xt_iload_n (j := 3) dL_law_943 rfl rfl ?_
        refine xt_iconst (v := 1) dL_law_944 (by decide) ?_
        refine xt_iadd dL_law_945 ?_
        obtain ⟨hi, H⟩ := H
        refine xt_sld dL_law_946 hi ?_
        refine xt_aload_n (j := 0) dL_law_947 rfl rfl ?_
        refine xt_iload_n (j := 3) dL_law_948 rfl rfl ?_
        refine xt_iconst (v := 2) dL_law_949 (by decide) ?_
        refine xt_iadd dL_law_950 ?_
        obtain ⟨hi, H⟩ := H
        refine xt_sld dL_law_951 hi ?_
        refine xt_aload_n (j := 0) dL_law_952 rfl rfl ?_
        refine xt_iload_n (j := 3) dL_law_953 rfl rfl ?_
        refine xt_iconst (v := 3) dL_law_954 (by decide) ?_
        refine xt_iadd dL_law_955 ?_
        obtain ⟨hi, H⟩ := H
        refine xt_sld dL_law_956 hi ?_
        obtain ⟨ho136, H⟩ := H
        refine xt_callV (h2 := h) (as := [.int (xs (x3 + 1 : Int32).toNatClampNeg), .int (xs (x3 + 2 : Int32).toNatClampNeg), .int (xs (x3 + 3 : Int32).toNatClampNeg)]) (st := []) dL_law_957 (mlL_115 rfl) rfl ho136.1 ⟨by rw [ho136.2]; rfl, by rw [ho136.2]; decide⟩ (by first | decide | (simp [Value.category]; done)) (Nat.le_refl _) H (fun r M137 HH hE => ?_)
        obtain ⟨r138, hr, H⟩ := HH hE
        subst hr
        have ho133 := ok_E ho133 hE
        have ho136 := ok_E ho136 hE
        show T _ _ _ _ [.int r138] _ _
        refine xt_pop dL_law_960 rfl ?_
        refine xt_goto (tgt := 1023) dL_law_961 (by decide) ?_
        exact xt_sub [0, 1, 2, 3] rfl (VL_law_1023 H)
      · have hx : ((xs (x3 : Int32).toNatClampNeg) &&& 31) = 24 := i32_ofInt hv
        have H := H.2.2.2.2.2.2.2.2.2.2.2.2.2.2.2.2.2.2.2.2.2.2.2.2.1 hx
        refine xt_tableIn (tgt := 964) dL_law_33 (by omega) (by omega) (by rw [hv]; rfl) (by decide) ?_
        refine xt_aload_n (j := 1) dL_law_964 rfl rfl ?_
        refine xt_aload_n (j := 0) dL_law_965 rfl rfl ?_
        refine xt_iload_n (j := 3) dL_law_966 rfl rfl ?_
        refine xt_iconst (v := 1) dL_law_967 (by decide) ?_
        refine xt_iadd dL_law_968 ?_
        obtain ⟨hi, H⟩ := H
        refine xt_sld dL_law_969 hi ?_
        obtain ⟨ho139, H⟩ := H
        refine xt_callV (h2 := h) (as := [.int (xs (x3 + 1 : Int32).toNatClampNeg)]) (st := []) dL_law_970 (mlL_116 rfl) rfl ho139.1 ⟨by rw [ho139.2]; rfl, by rw [ho139.2]; decide⟩ (by first | decide | (simp [Value.category]; done)) (Nat.le_refl _) H (fun r M140 HH hE => ?_)
        obtain ⟨r141, hr, H⟩ := HH hE
        subst hr
        have ho139 := ok_E ho139 hE
        show T _ _ _ _ [.int r141] _ _
        refine xt_aload_n (j := 2) dL_law_973 rfl rfl ?_
        refine xt_aload_n (j := 0) dL_law_974 rfl rfl ?_
        refine xt_iload_n (j := 3) dL_law_975 rfl rfl ?_
        refine xt_iconst (v := 1) dL_law_976 (by decide) ?_
        refine xt_iadd dL_law_977 ?_
        obtain ⟨hi, H⟩ := H
        refine xt_sld dL_law_978 hi ?_
        obtain ⟨ho142, H⟩ := H
        refine xt_callV (h2 := h) (as := [.int (xs (x3 + 1 : Int32).toNatClampNeg)]) (st := [.int r141]) dL_law_979 (mlL_119 rfl) rfl ho142.1 ⟨by rw [ho142.2]; rfl, by rw [ho142.2]; decide⟩ (by first | decide | (simp [Value.category]; done)) (Nat.le_refl _) H (fun r M143 HH hE => ?_)
        obtain ⟨r144, hr, H⟩ := HH hE
        subst hr
        have ho139 := ok_E ho139 hE
        have ho142 := ok_E ho142 hE
        show T _ _ _ _ [.int r144, .int r141] _ _
        refine xt_icmp_eq (tgt := 1023) dL_law_982 (by decide) (fun hc => ?_) (fun hc => ?_)
        · have H := H.1 hc
          exact xt_sub [0, 1, 2, 3] rfl (VL_law_1023 H)
        · have H := H.2 hc
          refine xt_iconst (v := 0) dL_law_985 (by decide) ?_
          exact xt_zreturn dL_law_986 rfl H.1 H.2
      · have hx : ((xs (x3 : Int32).toNatClampNeg) &&& 31) = 25 := i32_ofInt hv
        have H := H.2.2.2.2.2.2.2.2.2.2.2.2.2.2.2.2.2.2.2.2.2.2.2.2.2.1 hx
        refine xt_tableIn (tgt := 987) dL_law_33 (by omega) (by omega) (by rw [hv]; rfl) (by decide) ?_
        refine xt_aload_n (j := 1) dL_law_987 rfl rfl ?_
        refine xt_aload_n (j := 0) dL_law_988 rfl rfl ?_
        refine xt_iload_n (j := 3) dL_law_989 rfl rfl ?_
        refine xt_iconst (v := 1) dL_law_990 (by decide) ?_
        refine xt_iadd dL_law_991 ?_
        obtain ⟨hi, H⟩ := H
        refine xt_sld dL_law_992 hi ?_
        obtain ⟨ho145, H⟩ := H
        refine xt_callV (h2 := h) (as := [.int (xs (x3 + 1 : Int32).toNatClampNeg)]) (st := []) dL_law_993 (mlL_120 rfl) rfl ho145.1 ⟨by rw [ho145.2]; rfl, by rw [ho145.2]; decide⟩ (by first | decide | (simp [Value.category]; done)) (Nat.le_refl _) H (fun r M146 HH hE => ?_)
        obtain ⟨r147, hr, H⟩ := HH hE
        subst hr
        have ho145 := ok_E ho145 hE
        show T _ _ _ _ [.int r147] _ _
        refine xt_pop dL_law_996 rfl ?_
        refine xt_aload_n (j := 2) dL_law_997 rfl rfl ?_
        refine xt_aload_n (j := 0) dL_law_998 rfl rfl ?_
        refine xt_iload_n (j := 3) dL_law_999 rfl rfl ?_
        refine xt_iconst (v := 1) dL_law_1000 (by decide) ?_
        refine xt_iadd dL_law_1001 ?_
        obtain ⟨hi, H⟩ := H
        refine xt_sld dL_law_1002 hi ?_
        obtain ⟨ho148, H⟩ := H
        refine xt_callV (h2 := h) (as := [.int (xs (x3 + 1 : Int32).toNatClampNeg)]) (st := []) dL_law_1003 (mlL_123 rfl) rfl ho148.1 ⟨by rw [ho148.2]; rfl, by rw [ho148.2]; decide⟩ (by first | decide | (simp [Value.category]; done)) (Nat.le_refl _) H (fun r M149 HH hE => ?_)
        obtain ⟨r150, hr, H⟩ := HH hE
        subst hr
        have ho145 := ok_E ho145 hE
        have ho148 := ok_E ho148 hE
        show T _ _ _ _ [.int r150] _ _
        refine xt_pop dL_law_1006 rfl ?_
        refine xt_goto (tgt := 1023) dL_law_1007 (by decide) ?_
        exact xt_sub [0, 1, 2, 3] rfl (VL_law_1023 H)
      · have hx : ((xs (x3 : Int32).toNatClampNeg) &&& 31) = 26 := i32_ofInt hv
        have H := H.2.2.2.2.2.2.2.2.2.2.2.2.2.2.2.2.2.2.2.2.2.2.2.2.2.2.1 hx
        refine xt_tableIn (tgt := 1010) dL_law_33 (by omega) (by omega) (by rw [hv]; rfl) (by decide) ?_
        refine xt_aload_n (j := 1) dL_law_1010 rfl rfl ?_
        obtain ⟨ho151, H⟩ := H
        refine xt_callV (h2 := h) (as := []) (st := []) dL_law_1011 (mlL_124 rfl) rfl ho151.1 ⟨by rw [ho151.2]; rfl, by rw [ho151.2]; decide⟩ (by first | decide | (simp [Value.category]; done)) (Nat.le_refl _) H (fun r M152 HH hE => ?_)
        obtain ⟨r153, hr, H⟩ := HH hE
        subst hr
        have ho151 := ok_E ho151 hE
        show T _ _ _ _ [.int r153] _ _
        refine xt_pop dL_law_1014 rfl ?_
        refine xt_aload_n (j := 2) dL_law_1015 rfl rfl ?_
        obtain ⟨ho154, H⟩ := H
        refine xt_callV (h2 := h) (as := []) (st := []) dL_law_1016 (mlL_127 rfl) rfl ho154.1 ⟨by rw [ho154.2]; rfl, by rw [ho154.2]; decide⟩ (by first | decide | (simp [Value.category]; done)) (Nat.le_refl _) H (fun r M155 HH hE => ?_)
        obtain ⟨r156, hr, H⟩ := HH hE
        subst hr
        have ho151 := ok_E ho151 hE
        have ho154 := ok_E ho154 hE
        show T _ _ _ _ [.int r156] _ _
        refine xt_pop dL_law_1019 rfl ?_
        refine xt_goto (tgt := 1023) dL_law_1020 (by decide) ?_
        exact xt_sub [0, 1, 2, 3] rfl (VL_law_1023 H)
def DL_law_0 (L : Nat) (xs : Nat → Int32) (h : Nat) (M : Mem) (Q : Option Value → Mem → Prop) : Prop :=
  ∀ (q2 : Nat) (M1 : Mem), q2 = mN M → M1 = nwO M 12 9 →
  E h mdX10_init [.ref q2] M1 (fun r M3 => mE M1 M3 → r = none ∧ ∀ (q5 : Nat) (M4 : Mem), q5 = mN M3 → M4 = nwO M3 13 126 →
  E h mdX11_init [.ref q5] M4 (fun r M6 => mE M4 M6 → r = none ∧ T (h + 1) (mdL L xs) 18 [(0, .ref (mBig + 0)), (1, .ref q2), (2, .ref q5), (3, .int 0)] [] M6 Q))
set_option maxRecDepth 20000 in
set_option maxHeartbeats 2000000 in
theorem VL_law_0 {L : Nat} {xs : Nat → Int32} {h : Nat} {M : Mem} {Q : Option Value → Mem → Prop} (H : DL_law_0 L xs h  M Q) : T (h + 1) (mdL L xs) 0 [(0, .ref (mBig + 0))] [] M Q := by
  unfold DL_law_0 at H
  obtain ⟨M1, eM1⟩ : ∃ z, z = nwO M 12 9 := ⟨_, rfl⟩
  obtain ⟨q2, eq2⟩ : ∃ z, z = mN M := ⟨_, rfl⟩
  have H := H _ _ eq2 eM1
  refine xt_new dL_law_0 (nlL_7 rfl) ?_
  show T _ _ _ _ (.ref (mN M) :: []) (nwO M 12 9) _
  rw [← eM1, ← eq2]
  refine xt_dup dL_law_3 rfl ?_
  refine xt_callI (h2 := h) (as := []) (st := [.ref q2]) dL_law_4 (mlL_9 rfl) rfl (by first | decide | (simp [Value.category]; done)) (Nat.le_refl _) H (fun r M3 HH hE => ?_)
  obtain ⟨hr, H⟩ := HH hE
  subst hr
  show T _ _ _ _ [.ref q2] _ _
  refine xt_astore_n (lv' := [(1, .ref q2), (0, .ref (mBig + 0))]) dL_law_7 rfl (by show (_ : Nat) < 4; decide) rfl ?_
  obtain ⟨M4, eM4⟩ : ∃ z, z = nwO M3 13 126 := ⟨_, rfl⟩
  obtain ⟨q5, eq5⟩ : ∃ z, z = mN M3 := ⟨_, rfl⟩
  have H := H _ _ eq5 eM4
  refine xt_new dL_law_8 (nlL_10 rfl) ?_
  show T _ _ _ _ (.ref (mN M3) :: []) (nwO M3 13 126) _
  rw [← eM4, ← eq5]
  refine xt_dup dL_law_11 rfl ?_
  refine xt_callI (h2 := h) (as := []) (st := [.ref q5]) dL_law_12 (mlL_12 rfl) rfl (by first | decide | (simp [Value.category]; done)) (Nat.le_refl _) H (fun r M6 HH hE => ?_)
  obtain ⟨hr, H⟩ := HH hE
  subst hr
  show T _ _ _ _ [.ref q5] _ _
  refine xt_astore_n (lv' := [(2, .ref q5), (1, .ref q2), (0, .ref (mBig + 0))]) dL_law_15 rfl (by show (_ : Nat) < 4; decide) rfl ?_
  refine xt_iconst (v := 0) dL_law_16 (by decide) ?_
  refine xt_istore_n (lv' := [(3, .int 0), (2, .ref q5), (1, .ref q2), (0, .ref (mBig + 0))]) dL_law_17 rfl (by show (_ : Nat) < 4; decide) rfl ?_
  exact xt_sub (lv' := [(0, .ref (mBig + 0)), (1, .ref q2), (2, .ref q5), (3, .int 0)]) [3, 2, 1, 0] rfl H
