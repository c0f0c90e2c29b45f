/-! String.indexOf over SIGNS -/
def sgB (i : Nat) : Int32 := (txB.getD 1 []).getD i 0
def idxF (c : Int32) : Nat → Nat → Int32
  | 0, _ => -1
  | k + 1, i => if sgB i = c then Int32.ofNat i else idxF c k (i + 1)
theorem C_canEnc {h : Nat} {c : Int32} {M : Mem} {Q : Option Value → Mem → Prop} (h0 : ¬ c < 0) (h1 : ¬ 255 < c) (H : Q (some (.int 1)) M) : E (h + 1) mdJ1_canEncode_9a6ad [.int c] M Q := by
  refine E.of (by decide) (Nat.le_of_ble_eq_true rfl) (fun _ _ _ => trivial) ?_
  show T _ _ 0 [(0, .int c)] [] M _
  refine xt_iload_n (j := 0) dJ1_canEncode_9a6ad_0 rfl rfl ?_
  refine xt_if_lt (tgt := 15) dJ1_canEncode_9a6ad_1 (by decide) (fun hc => absurd hc h0) (fun _ => ?_)
  refine xt_iload_n (j := 0) dJ1_canEncode_9a6ad_4 rfl rfl ?_
  refine xt_sipush (v := 255) dJ1_canEncode_9a6ad_5 (by decide) ?_
  refine xt_icmp_gt (tgt := 15) dJ1_canEncode_9a6ad_8 (by decide) (fun hc => absurd hc h1) (fun _ => ?_)
  refine xt_iconst (v := 1) dJ1_canEncode_9a6ad_11 (by decide) ?_
  refine xt_goto (tgt := 16) dJ1_canEncode_9a6ad_12 (by decide) ?_
  exact xt_zreturn dJ1_canEncode_9a6ad_16 rfl (Or.inr rfl) H
theorem idx_loop {h : Nat} {c x : Int32} {M : Mem} {Q : Option Value → Mem → Prop} : ∀ (k i : Nat), i + k = 12 → Q (some (.int (idxF c k i))) M → T (h + 1) mdJ1_indexOfChar_4cfef 7 [(0, .ref (mBig + 4)), (1, .int x), (2, .int 0), (3, .int 12), (4, .int c), (5, .int (Int32.ofNat i))] [] M Q := by
  intro k
  induction k with
  | zero =>
    intro i hi H
    have hi : i = 12 := hi
    subst hi
    refine xt_iload (j := 5) dJ1_indexOfChar_4cfef_7 rfl ?_
    refine xt_iload_n (j := 3) dJ1_indexOfChar_4cfef_9 rfl rfl ?_
    refine xt_icmp_ge (tgt := 31) dJ1_indexOfChar_4cfef_10 (by decide) (fun _ => ?_) (fun hc => absurd (by decide) hc)
    refine xt_iconst (v := -1) dJ1_indexOfChar_4cfef_31 (by decide) ?_
    exact xt_ireturn dJ1_indexOfChar_4cfef_32 rfl H
  | succ k ih =>
    intro i hi H
    refine xt_iload (j := 5) dJ1_indexOfChar_4cfef_7 rfl ?_
    refine xt_iload_n (j := 3) dJ1_indexOfChar_4cfef_9 rfl rfl ?_
    refine xt_icmp_ge (tgt := 31) dJ1_indexOfChar_4cfef_10 (by decide) (fun hc => absurd ((le32 (a := 12) (b := i) (by decide) (by omega)).mp hc) (by omega)) (fun _ => ?_)
    refine xt_aload_n (j := 0) dJ1_indexOfChar_4cfef_13 rfl rfl ?_
    refine xt_iload (j := 5) dJ1_indexOfChar_4cfef_14 rfl ?_
    refine xt_spB (i := 1) dJ1_indexOfChar_4cfef_16 (by decide) (vp_of (k := 12) (by omega) (by decide)) ?_
    rw [lt32 (by omega)]
    refine xt_iload (j := 4) dJ1_indexOfChar_4cfef_17 rfl ?_
    unfold idxF at H
    refine xt_icmp_ne (tgt := 25) dJ1_indexOfChar_4cfef_19 (by decide) (fun hc => ?_) (fun hc => ?_)
    · have hc : ¬ sgB i = c := hc
      rw [if_neg hc] at H
      refine xt_iinc (j := 5) (v := Int32.ofNat i + 1) (lv' := [(5, .int (Int32.ofNat i + 1)), (0, .ref (mBig + 4)), (1, .int x), (2, .int 0), (3, .int 12), (4, .int c)]) dJ1_indexOfChar_4cfef_25 rfl (by rfl) (by show (_ : Nat) < 6; decide) rfl ?_
      refine xt_goto (tgt := 7) dJ1_indexOfChar_4cfef_28 (by decide) ?_
      rw [succ32]
      exact xt_sub (lv' := [(0, .ref (mBig + 4)), (1, .int x), (2, .int 0), (3, .int 12), (4, .int c), (5, .int (Int32.ofNat (i + 1)))]) [1, 2, 3, 4, 5, 0] rfl (ih (i + 1) (by omega) H)
    · have hc : sgB i = c := hc
      rw [if_pos hc] at H
      refine xt_iload (j := 5) dJ1_indexOfChar_4cfef_22 rfl ?_
      exact xt_ireturn dJ1_indexOfChar_4cfef_24 rfl H
theorem C_idxChar {h : Nat} {x : Int32} {M : Mem} {Q : Option Value → Mem → Prop} (H : Q (some (.int (idxF x.toInt8.toInt32 12 0))) M) : E (h + 1) mdJ1_indexOfChar_4cfef [.ref (mBig + 4), .int x, .int 0, .int 12] M Q := by
  refine E.of (by decide) (Nat.le_of_ble_eq_true rfl) (fun _ _ _ => trivial) ?_
  show T _ _ 0 [(0, .ref (mBig + 4)), (1, .int x), (2, .int 0), (3, .int 12)] [] M _
  refine xt_iload_n (j := 1) dJ1_indexOfChar_4cfef_0 rfl rfl ?_
  refine xt_i2b dJ1_indexOfChar_4cfef_1 ?_
  refine xt_istore (i := 4) (lv' := [(4, .int x.toInt8.toInt32), (0, .ref (mBig + 4)), (1, .int x), (2, .int 0), (3, .int 12)]) dJ1_indexOfChar_4cfef_2 (by show (_ : Nat) < 6; decide) rfl ?_
  refine xt_iload_n (j := 3) dJ1_indexOfChar_4cfef_4 rfl rfl ?_
  refine xt_istore (i := 5) (lv' := [(5, .int 0), (4, .int x.toInt8.toInt32), (0, .ref (mBig + 4)), (1, .int x), (2, .int 0), (3, .int 12)]) dJ1_indexOfChar_4cfef_5 (by show (_ : Nat) < 6; decide) rfl ?_
  exact xt_sub (lv' := [(0, .ref (mBig + 4)), (1, .int x), (2, .int 0), (3, .int 12), (4, .int x.toInt8.toInt32), (5, .int 0)]) [2, 3, 4, 5, 1, 0] rfl (idx_loop 12 0 rfl H)
theorem C_idxL {h : Nat} {x : Int32} {M : Mem} {Q : Option Value → Mem → Prop} (h0 : ¬ x < 0) (h1 : ¬ 255 < x) (H : Q (some (.int (idxF x.toInt8.toInt32 12 0))) M) : E (h + 3) mdJ1_indexOf_4cfef [.ref (mBig + 4), .int x, .int 0, .int 12] M Q := by
  refine E.of (by decide) (Nat.le_of_ble_eq_true rfl) (fun _ _ _ => trivial) ?_
  show T _ _ 0 [(0, .ref (mBig + 4)), (1, .int x), (2, .int 0), (3, .int 12)] [] M _
  refine xt_iload_n (j := 1) dJ1_indexOf_4cfef_0 rfl rfl ?_
  refine xt_callS (h2 := h + 2) (as := [.int x]) (st := []) (P := fun r M' => r = some (.int 1) ∧ M' = M) dJ1_indexOf_4cfef_1 (mlJ1_88 rfl) rfl (by decide) (Nat.le_refl _) (C_canEnc h0 h1 ⟨rfl, rfl⟩) (fun r M1 hp hE => ?_)
  obtain ⟨rfl, hp⟩ := hp
  rw [hp]
  show T _ _ _ _ [.int 1] _ _
  refine xt_if_ne (tgt := 9) dJ1_indexOf_4cfef_4 (by decide) (fun _ => ?_) (fun hc => absurd hc (by decide))
  refine xt_iload_n (j := 2) dJ1_indexOf_4cfef_9 rfl rfl ?_
  refine xt_iconst (v := 0) dJ1_indexOf_4cfef_10 (by decide) ?_
  refine xt_mmax dJ1_indexOf_4cfef_11 (mmJ1_92 rfl) (by omega) (by decide) ?_
  rw [if_neg (by decide)]
  refine xt_istore_n (i := 2) (lv' := [(2, .int 0), (0, .ref (mBig + 4)), (1, .int x), (3, .int 12)]) dJ1_indexOf_4cfef_14 rfl (by show (_ : Nat) < 4; decide) rfl ?_
  refine xt_iload_n (j := 3) dJ1_indexOf_4cfef_15 rfl rfl ?_
  refine xt_aload_n (j := 1) dJ1_indexOf_4cfef_16 rfl rfl ?_
  refine xt_spBl (i := 1) dJ1_indexOf_4cfef_17 (by decide) ?_
  refine xt_mmin dJ1_indexOf_4cfef_18 (mmJ1_38 rfl) (by omega) (by decide) ?_
  rw [if_neg (by decide)]
  refine xt_istore_n (i := 3) (lv' := [(3, .int 12), (2, .int 0), (0, .ref (mBig + 4)), (1, .int x)]) dJ1_indexOf_4cfef_21 rfl (by show (_ : Nat) < 4; decide) rfl ?_
  refine xt_iload_n (j := 1) dJ1_indexOf_4cfef_22 rfl rfl ?_
  refine xt_iload_n (j := 0) dJ1_indexOf_4cfef_23 rfl rfl ?_
  refine xt_icmp_lt (tgt := 29) dJ1_indexOf_4cfef_24 (by decide) (fun _ => ?_) (fun hc => absurd (by decide) hc)
  refine xt_aload_n (j := 2) dJ1_indexOf_4cfef_29 rfl rfl ?_
  refine xt_iload_n (j := 3) dJ1_indexOf_4cfef_30 rfl rfl ?_
  refine xt_iload_n (j := 1) dJ1_indexOf_4cfef_31 rfl rfl ?_
  refine xt_iload_n (j := 0) dJ1_indexOf_4cfef_32 rfl rfl ?_
  refine xt_callS (h2 := h + 2) (as := [.ref (mBig + 4), .int x, .int 0, .int 12]) (st := []) (P := fun r M' => r = some (.int (idxF x.toInt8.toInt32 12 0)) ∧ M' = M) dJ1_indexOf_4cfef_33 (mlJ1_95 rfl) rfl (by decide) (Nat.le_refl _) (C_idxChar ⟨rfl, rfl⟩) (fun r M1 hp hE => ?_)
  obtain ⟨rfl, hp⟩ := hp
  rw [hp]
  exact xt_ireturn dJ1_indexOf_4cfef_36 rfl H
theorem C_idx2 {h : Nat} {x : Int32} {M : Mem} {Q : Option Value → Mem → Prop} (h0 : ¬ x < 0) (h1 : ¬ 255 < x) (H : Q (some (.int (idxF x.toInt8.toInt32 12 0))) M) : E (h + 4) mdJ0_indexOf_7cf53 [.ref (mBig + 2), .int x, .int 0] M Q := by
  refine E.of (by decide) (Nat.le_of_ble_eq_true rfl) (fun _ _ _ => trivial) ?_
  show T _ _ 0 [(0, .ref (mBig + 2)), (1, .int x), (2, .int 0)] [] M _
  refine xt_aload_n (j := 0) dJ0_indexOf_7cf53_0 rfl rfl ?_
  refine xt_callX (h2 := h + 3) (j := 2) (as := []) (st := []) (P := fun r M' => r = some (.int 1) ∧ M' = M) dJ0_indexOf_7cf53_1 (mlJ0_492 rfl) rfl (Or.inl ⟨by omega, rfl⟩) (by decide) (Nat.le_refl _) (C_isLatin1 (i := 1) (by decide)) (fun r M1 hp hE => ?_)
  obtain ⟨rfl, hp⟩ := hp
  rw [hp]
  show T _ _ _ _ [.int 1] _ _
  refine xt_if_eq (tgt := 23) dJ0_indexOf_7cf53_4 (by decide) (fun hc => absurd hc (by decide)) (fun _ => ?_)
  refine xt_aload_n (j := 0) dJ0_indexOf_7cf53_7 rfl rfl ?_
  refine xt_strV (i := 1) dJ0_indexOf_7cf53_8 wJ0_9 (by decide) ?_
  refine xt_iload_n (j := 1) dJ0_indexOf_7cf53_11 rfl rfl ?_
  refine xt_iload_n (j := 2) dJ0_indexOf_7cf53_12 rfl rfl ?_
  refine xt_aload_n (j := 0) dJ0_indexOf_7cf53_13 rfl rfl ?_
  refine xt_callX (h2 := h + 3) (j := 2) (as := []) (st := [.int 0, .int x, .ref (mBig + 4)]) (P := fun r M' => r = some (.int 12) ∧ M' = M) dJ0_indexOf_7cf53_14 (mlJ0_505 rfl) rfl (Or.inl ⟨by omega, rfl⟩) (by simp [Value.category]) (Nat.le_refl _) (C_length (i := 1) (by decide)) (fun r M1 hp hE => ?_)
  obtain ⟨rfl, hp⟩ := hp
  rw [hp]
  show T _ _ _ _ [.int 12, .int 0, .int x, .ref (mBig + 4)] _ _
  refine xt_callS (h2 := h + 3) (as := [.ref (mBig + 4), .int x, .int 0, .int 12]) (st := []) (P := fun r M' => r = some (.int (idxF x.toInt8.toInt32 12 0)) ∧ M' = M) dJ0_indexOf_7cf53_17 (mlJ0_637 rfl) rfl (by decide) (Nat.le_refl _) (C_idxL h0 h1 ⟨rfl, rfl⟩) (fun r M1 hp hE => ?_)
  obtain ⟨rfl, hp⟩ := hp
  rw [hp]
  show T _ _ _ _ [.int (idxF x.toInt8.toInt32 12 0)] _ _
  refine xt_goto (tgt := 36) dJ0_indexOf_7cf53_20 (by decide) ?_
  exact xt_ireturn dJ0_indexOf_7cf53_36 rfl H
theorem S_indexOf {h : Nat} {x : Int32} {M : Mem} {Q : Option Value → Mem → Prop} (h0 : ¬ x < 0) (h1 : ¬ 255 < x) (H : Q (some (.int (idxF x.toInt8.toInt32 12 0))) M) : E (h + 5) mdJ0_indexOf_0f7a4 [.ref (mBig + 2), .int x] M Q := by
  refine E.of (by decide) (Nat.le_of_ble_eq_true rfl) (fun _ _ _ => trivial) ?_
  show T _ _ 0 [(0, .ref (mBig + 2)), (1, .int x)] [] M _
  refine xt_aload_n (j := 0) dJ0_indexOf_0f7a4_0 rfl rfl ?_
  refine xt_iload_n (j := 1) dJ0_indexOf_0f7a4_1 rfl rfl ?_
  refine xt_iconst (v := 0) dJ0_indexOf_0f7a4_2 (by decide) ?_
  refine xt_callX (h2 := h + 4) (j := 2) (as := [.int x, .int 0]) (st := []) (P := fun r M' => r = some (.int (idxF x.toInt8.toInt32 12 0)) ∧ M' = M) dJ0_indexOf_0f7a4_3 (mlJ0_633 rfl) rfl (Or.inl ⟨by omega, rfl⟩) (by decide) (Nat.le_refl _) (C_idx2 h0 h1 ⟨rfl, rfl⟩) (fun r M1 hp hE => ?_)
  obtain ⟨rfl, hp⟩ := hp
  rw [hp]
  exact xt_ireturn dJ0_indexOf_0f7a4_6 rfl H
