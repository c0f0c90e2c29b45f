/-! ArrayList: add, get, size -/
theorem shr1 {L : Nat} (h : L < 2147483648) : Int32.ofNat L >>> ((1 : Int32) &&& 31) = Int32.ofNat (L / 2) := by
  refine Int32.toInt_inj.mp ?_
  rw [ti32 (n := L / 2) (by omega)]
  show (Int32.ofNat L >>> ((1 : Int32) &&& 31)).toBitVec.toInt = _
  rw [Int32.toBitVec_shiftRight, show BitVec.smod ((1 : Int32) &&& 31).toBitVec 32 = 1#32 by decide]
  show ((Int32.ofNat L).toBitVec.sshiftRight 1).toInt = _
  rw [BitVec.toInt_sshiftRight]
  have e : (Int32.ofNat L).toBitVec.toInt = (L : Int) := ti32 h
  rw [e, Int.shiftRight_eq_div_pow]
  omega
/-- the length that follows L -/
def gN (L : Nat) : Nat := L + (if 1 < L / 2 then L / 2 else 1)
theorem gN_b {L : Nat} : L < gN L ∧ gN L ≤ 2 * L + 10 ∧ 4 * L ≤ 3 * gN L := by unfold gN; split <;> omega
theorem ELc.e {M M' : Mem} {ci v : Nat} (h : ELc M ci v) (k : mE M M') : ELc M' ci v := by
  rcases h with h | h
  · exact Or.inl (ok_E h k)
  · exact Or.inr h
/-- a list: cell a, its row b, what it holds -/
def ALp (M : Mem) (a b ci : Nat) (l : List Nat) : Prop := ok M a 1 ∧ mI M a 2 = Int32.ofNat l.length ∧ l.length ≤ 100000 ∧ (∀ v ∈ l, ELc M ci v) ∧ mR M a 1 = some b ∧ ((b = mBig + 5 ∧ l = []) ∨ (ok M b 24 ∧ l.length ≤ mL M b ∧ 1 ≤ mL M b ∧ mL M b ≤ 1000000 ∧ ∀ i, i < l.length → mAR M b i = some (l.getD i 0)))
/-- the length of a list's row -/
def Lb (M : Mem) (b : Nat) : Nat := if b < mBig then mL M b else 0
def ALF (M M' : Mem) (a b b' n : Nat) : Prop := fr (fun c => c = a ∨ (c = b ∧ mK M c = 24)) M M' ∧ (∀ f, f ≠ 0 → f ≠ 2 → mI M' a f = mI M a f) ∧ mJ M' a = mJ M a ∧ (∀ f, f ≠ 1 → mR M' a f = mR M a f) ∧ (b' = b ∨ b' = mN M) ∧ mN M' ≤ mN M + 1 ∧ mS M' ≤ mS M + (10 + 2 * n) ∧ (mN M < mBig → mS M' + 4 * Lb M b ≤ mS M + 4 * Lb M' b' ∧ (Lb M b ≤ 10 + 2 * n → Lb M' b' ≤ 12 + 2 * n))
def Gro (M M1 : Mem) (a N : Nat) (l : List Nat) : Prop := fr (fun c => c = a) M M1 ∧ mI M1 a = mI M a ∧ mJ M1 a = mJ M a ∧ (∀ f, f ≠ 1 → mR M1 a f = mR M a f) ∧ mR M1 a 1 = some (mN M) ∧ ok M1 (mN M) 24 ∧ mL M1 (mN M) = N ∧ (l.length < N ∧ N ≤ 2 * l.length + 10 ∧ 4 * l.length ≤ 3 * N) ∧ (∀ j, j < l.length → mAR M1 (mN M) j = some (l.getD j 0)) ∧ mN M1 = mN M + 1 ∧ mS M1 = mS M + N
def Ful (M : Mem) (b : Nat) (l : List Nat) : Prop := (b = mBig + 5 ∧ l = []) ∨ (ok M b 24 ∧ mL M b = l.length ∧ 1 ≤ l.length ∧ ∀ i, i < l.length → mAR M b i = some (l.getD i 0))
section
variable {h : Nat} {M : Mem} {Q : Option Value → Mem → Prop} {a b ci v : Nat} {l : List Nat}
theorem S_newLen {L : Nat} (h0 : 1 ≤ L) (h1 : L ≤ 1000000) (H : Q (some (.int (Int32.ofNat (gN L)))) M) : E (h + 1) mdJ8_newLength_cabcc [.int (Int32.ofNat L), .int 1, .int (Int32.ofNat (L / 2))] M Q := by
  have hb := gN_b (L := L)
  have e : Int32.ofNat L + (if (1 : Int32) < Int32.ofNat (L / 2) then Int32.ofNat (L / 2) else 1) = Int32.ofNat (gN L) := by
    have c : ((1 : Int32) < Int32.ofNat (L / 2)) ↔ 1 < L / 2 := ltn32 (a := 1) (by decide) (by omega)
    unfold gN
    by_cases q : 1 < L / 2
    · rw [if_pos (c.mpr q), if_pos q, add32]
    · rw [if_neg (fun z => q (c.mp z)), if_neg q, succ32]
  refine E.of (by decide) (Nat.le_of_ble_eq_true rfl) (fun _ _ _ => trivial) ?_
  show T _ _ 0 [(0, .int (Int32.ofNat L)), (1, .int 1), (2, .int (Int32.ofNat (L / 2)))] [] M _
  refine xt_iload_n (j := 0) dJ8_newLength_cabcc_0 rfl rfl ?_
  refine xt_iload_n (j := 1) dJ8_newLength_cabcc_1 rfl rfl ?_
  refine xt_iload_n (j := 2) dJ8_newLength_cabcc_2 rfl rfl ?_
  refine xt_mmax dJ8_newLength_cabcc_3 (mmJ8_194 rfl) (by omega) (by simp [Value.category]) ?_
  refine xt_iadd dJ8_newLength_cabcc_6 ?_
  rw [e]
  refine xt_istore_n (i := 3) (lv' := [(3, .int (Int32.ofNat (gN L))), (0, .int (Int32.ofNat L)), (1, .int 1), (2, .int (Int32.ofNat (L / 2)))]) dJ8_newLength_cabcc_7 rfl (by show (_ : Nat) < 4; decide) rfl ?_
  refine xt_iconst (v := 0) dJ8_newLength_cabcc_8 (by decide) ?_
  refine xt_iload_n (j := 0) dJ8_newLength_cabcc_9 rfl rfl ?_
  refine xt_icmp_ge (tgt := 21) dJ8_newLength_cabcc_10 (by decide) (fun hc => ?_) (fun hc => ?_)
  · have := (le32 (a := gN L) (b := 0) (by omega) (by decide)).mp hc
    omega
  refine xt_iload_n (j := 0) dJ8_newLength_cabcc_13 rfl rfl ?_
  refine xt_ldc dJ8_newLength_cabcc_14 (ctJ8_200 rfl) ?_
  refine xt_icmp_gt (tgt := 21) dJ8_newLength_cabcc_16 (by decide) (fun hc => ?_) (fun hc => ?_)
  · have := (ltn32 (a := 2147483639) (b := gN L) (by decide) (by omega)).mp hc
    omega
  refine xt_iload_n (j := 0) dJ8_newLength_cabcc_19 rfl rfl ?_
  exact xt_ireturn dJ8_newLength_cabcc_20 rfl H
theorem clJ7_2 : Cond.classLink mdJ7_copyOf_6403c.1.cls 2 "java/lang/Object" ∈ TB := tbL tbk_4 130 (by decide +kernel) rfl
theorem clJx_7 : Cond.classLink mdJx4a65c_grow_92f84.1.cls 7 "java/lang/Object" ∈ TB := tbL tbk_4 132 (by decide +kernel) rfl
theorem S_copyO {N L : Nat} (hb : ok M b 24) (hL : mL M b = L) (hlt : L < N) (hN : N ≤ 10000000) (hk : ELk ci) (hel : ∀ j, j < L → ∀ y, mAR M b j = some y → ELc M ci y) (H : Q (some (.ref (mN M))) (wCr (nwA M 24 N) b (mN M) 0 0 L)) : E (h + 1) mdJ7_copyOf_6403c [.ref b, .int (Int32.ofNat N), .ref (mBig + 11)] M Q := by
  have hM : ok (nwA M 24 N) b 24 := ok_nwA hb
  have hL1 : mL (nwA M 24 N) b = L := (va_up_ne _ _ (Nat.ne_of_lt hb.1)).trans hL
  have hL2 : mL (nwA M 24 N) (mN M) = N := va_up_self _ _ _
  refine E.of (by decide) (Nat.le_of_ble_eq_true rfl) (fun _ _ _ => trivial) ?_
  show T _ _ 0 [(0, .ref b), (1, .int (Int32.ofNat N)), (2, .ref (mBig + 11))] [] M _
  refine xt_aload_n (j := 2) dJ7_copyOf_6403c_0 rfl rfl ?_
  refine xt_ldcO dJ7_copyOf_6403c_1 rfl ?_
  refine xt_acmpN (tgt := 13) dJ7_copyOf_6403c_3 (by decide) ?_
  refine xt_iload_n (j := 1) dJ7_copyOf_6403c_6 rfl rfl ?_
  refine xt_newO (N := N) dJ7_copyOf_6403c_7 clJ7_2 (by rw [show (0 : Int32) = Int32.ofNat 0 from rfl, ltn32 (by omega) (by decide)]; omega) (lt32 (by omega)) (by omega) ?_
  refine xt_goto (tgt := 24) dJ7_copyOf_6403c_10 (by decide) ?_
  refine xt_astore_n (i := 3) (lv' := [(3, .ref (mN M)), (0, .ref b), (1, .int (Int32.ofNat N)), (2, .ref (mBig + 11))]) dJ7_copyOf_6403c_24 rfl (by show (_ : Nat) < 4; decide) rfl ?_
  refine xt_aload_n (j := 1) dJ7_copyOf_6403c_25 rfl rfl ?_
  refine xt_iconst (v := 0) dJ7_copyOf_6403c_26 (by decide) ?_
  refine xt_aload_n (j := 0) dJ7_copyOf_6403c_27 rfl rfl ?_
  refine xt_iconst (v := 0) dJ7_copyOf_6403c_28 (by decide) ?_
  refine xt_aload_n (j := 1) dJ7_copyOf_6403c_29 rfl rfl ?_
  refine xt_alen dJ7_copyOf_6403c_30 hM.1 (Or.inr (Or.inr (Or.inr (Or.inr (Or.inl hM.2))))) ?_
  refine xt_iload_n (j := 2) dJ7_copyOf_6403c_31 rfl rfl ?_
  refine xt_mmin dJ7_copyOf_6403c_32 (mmJ7_304 rfl) (by omega) (by simp [Value.category]) ?_
  rw [hL1, if_neg (by rw [ltn32 (by omega) (by omega)]; omega)]
  have e0 : (0 : Int32).toNatClampNeg = 0 := by decide
  have e1 : (Int32.ofNat L).toNatClampNeg = L := lt32 (by omega)
  refine xt_cpyR (ci := ci) dJ7_copyOf_6403c_35 (cpJ7_150 rfl) hM ok_newA (by decide) (by decide) (by rw [show (0 : Int32) = Int32.ofNat 0 from rfl, ltn32 (by omega) (by decide)]; omega) (by rw [e0, e1, hL1]; omega) (by rw [e0, e1, hL2]; omega) hk (fun j hj y hy => ?_) (by omega) (by decide) ?_
  · rw [e1] at hj
    rw [e0, Nat.zero_add] at hy
    have e2 : mAR (nwA M 24 N) b j = mAR M b j := by show va_up (mAR M) (mN M) _ b j = _; rw [va_up_ne _ _ (Nat.ne_of_lt hb.1)]
    exact (hel j hj y (e2.symm.trans hy)).e mE_nwA
  · rw [e0, e1]
    refine xt_aload_n (j := 0) dJ7_copyOf_6403c_38 rfl rfl ?_
    exact xt_areturn (rt := .array (.object "java/lang/Object")) dJ7_copyOf_6403c_39 rfl (Or.inr ⟨_, rfl⟩) H
theorem S_copyO2 {N L : Nat} (hb : ok M b 24) (hL : mL M b = L) (hlt : L < N) (hN : N ≤ 10000000) (hk : ELk ci) (hel : ∀ j, j < L → ∀ y, mAR M b j = some y → ELc M ci y) (H : Q (some (.ref (mN M))) (wCr (nwA M 24 N) b (mN M) 0 0 L)) : E (h + 2) mdJ7_copyOf_1904c [.ref b, .int (Int32.ofNat N)] M Q := by
  refine E.of (by decide) (Nat.le_of_ble_eq_true rfl) (fun _ _ _ => trivial) ?_
  show T _ _ 0 [(0, .ref b), (1, .int (Int32.ofNat N))] [] M _
  refine xt_aload_n (j := 0) dJ7_copyOf_1904c_0 rfl rfl ?_
  refine xt_iload_n (j := 1) dJ7_copyOf_1904c_1 rfl rfl ?_
  refine xt_aload_n (j := 0) dJ7_copyOf_1904c_2 rfl rfl ?_
  refine xt_getC dJ7_copyOf_1904c_3 rfl hb (by omega) (by simp [Value.category]) ?_
  refine xt_callS (h2 := h + 1) (as := [.ref b, .int (Int32.ofNat N), .ref (mBig + 11)]) (st := []) dJ7_copyOf_1904c_6 (mlJ7_300 rfl) rfl (by decide) (Nat.le_refl _) (S_copyO (Q := fun r M1 => r = some (.ref (mN M)) ∧ M1 = wCr (nwA M 24 N) b (mN M) 0 0 L) hb hL hlt hN hk hel ⟨rfl, rfl⟩) (fun r M1 hp hE => ?_)
  obtain ⟨rfl, rfl⟩ := hp
  show T _ _ _ _ [.ref (mN M)] _ _
  exact xt_areturn (rt := .array (.object "java/lang/Object")) dJ7_copyOf_1904c_9 rfl (Or.inr ⟨_, rfl⟩) H
theorem S_growI (hA : ALp M a b ci l) (hfull : Ful M b l) (hk : ELk ci) (H : ∀ M1 N, Gro M M1 a N l → Q (some (.ref (mN M))) M1) : E (h + 3) mdJx4a65c_grow_92f84 [.ref a, .int (Int32.ofNat (l.length + 1))] M Q := by
  obtain ⟨ha, hs, hl, hel, hr, -⟩ := hA
  have hne : mN M ≠ a := fun z => Nat.lt_irrefl _ (z ▸ ha.1)
  refine E.of (by decide) (Nat.le_of_ble_eq_true rfl) (fun _ _ _ => trivial) ?_
  show T _ _ 0 [(0, .ref a), (1, .int (Int32.ofNat (l.length + 1)))] [] M _
  refine xt_aload_n (j := 0) dJx4a65c_grow_92f84_0 rfl rfl ?_
  refine xt_getR (b := b) dJx4a65c_grow_92f84_1 (flJx4a65c_9 rfl) ft_1_1 ha.1 ha.2 hr ?_
  rcases hfull with ⟨rfl, rfl⟩ | ⟨ob, hL, hpos, hg⟩
  · refine xt_spEl dJx4a65c_grow_92f84_4 ?_
    refine xt_istore_n (i := 2) (lv' := [(2, .int 0), (0, .ref a), (1, .int (Int32.ofNat (([] : List Nat).length + 1)))]) dJx4a65c_grow_92f84_5 rfl (by show (_ : Nat) < 4; decide) rfl ?_
    refine xt_iload_n (j := 0) dJx4a65c_grow_92f84_6 rfl rfl ?_
    refine xt_if_gt (tgt := 20) dJx4a65c_grow_92f84_7 (by decide) (fun hc => absurd hc (by decide)) (fun _ => ?_)
    refine xt_aload_n (j := 1) dJx4a65c_grow_92f84_10 rfl rfl ?_
    refine xt_getR (b := mBig + 5) dJx4a65c_grow_92f84_11 (flJx4a65c_9 rfl) ft_1_1 ha.1 ha.2 hr ?_
    refine xt_gsE dJx4a65c_grow_92f84_14 wJx_39 ?_
    refine xt_acmpS (tgt := 45) dJx4a65c_grow_92f84_17 (by decide) ?_
    refine xt_aload_n (j := 1) dJx4a65c_grow_92f84_45 rfl rfl ?_
    refine xt_bipush (v := 10) dJx4a65c_grow_92f84_46 (by decide) ?_
    refine xt_iload_n (j := 2) dJx4a65c_grow_92f84_48 rfl rfl ?_
    refine xt_mmax dJx4a65c_grow_92f84_49 (mmJx4a65c_79 rfl) (by omega) (by simp [Value.category]) ?_
    rw [show (if (10 : Int32) < Int32.ofNat (([] : List Nat).length + 1) then Int32.ofNat (([] : List Nat).length + 1) else 10) = 10 by decide]
    refine xt_newO (N := 10) dJx4a65c_grow_92f84_52 clJx_7 (by decide) (by decide) (by decide) ?_
    refine xt_dup_x1 dJx4a65c_grow_92f84_55 rfl rfl ?_
    have ha1 : ok (nwA M 24 10) a 1 := ok_nwA ha
    refine xt_putR dJx4a65c_grow_92f84_56 (flJx4a65c_9 rfl) ft_1_1 rfl ha1.1 ha1.2 ?_
    refine xt_areturn (rt := .array (.object "java/lang/Object")) dJx4a65c_grow_92f84_59 rfl (Or.inr ⟨_, rfl⟩) (H _ 10 ?_)
    refine ⟨⟨mE_nwA.tr mE_wR, fun c hc hn => ⟨rfl, rfl, up2_row hn, va_up_ne _ _ (Nat.ne_of_lt hc), va_up_ne _ _ (Nat.ne_of_lt hc), va_up_ne _ _ (Nat.ne_of_lt hc)⟩⟩, rfl, rfl, fun f hf => up2_ne (fun z => hf z.2), up2_eq, (ok_newA : ok (nwA M 24 10) (mN M) 24), va_up_self _ _ _, ⟨by decide, by decide, by decide⟩, fun j hj => absurd hj (Nat.not_lt_zero _), rfl, rfl⟩
  · have gb := gN_b (L := l.length)
    refine xt_alen dJx4a65c_grow_92f84_4 ob.1 (Or.inr (Or.inr (Or.inr (Or.inr (Or.inl ob.2))))) ?_
    rw [hL]
    refine xt_istore_n (i := 2) (lv' := [(2, .int (Int32.ofNat l.length)), (0, .ref a), (1, .int (Int32.ofNat (l.length + 1)))]) dJx4a65c_grow_92f84_5 rfl (by show (_ : Nat) < 4; decide) rfl ?_
    refine xt_iload_n (j := 0) dJx4a65c_grow_92f84_6 rfl rfl ?_
    refine xt_if_gt (tgt := 20) dJx4a65c_grow_92f84_7 (by decide) (fun _ => ?_) (fun hc => absurd ((ltn32 (a := 0) (by decide) (by omega)).mpr (by omega)) hc)
    refine xt_iload_n (j := 0) dJx4a65c_grow_92f84_20 rfl rfl ?_
    refine xt_iload_n (j := 2) dJx4a65c_grow_92f84_21 rfl rfl ?_
    refine xt_iload_n (j := 0) dJx4a65c_grow_92f84_22 rfl rfl ?_
    refine xt_isub dJx4a65c_grow_92f84_23 ?_
    rw [sub32 (by omega) (by omega), show l.length + 1 - l.length = 1 by omega]
    refine xt_iload_n (j := 0) dJx4a65c_grow_92f84_24 rfl rfl ?_
    refine xt_iconst (v := 1) dJx4a65c_grow_92f84_25 (by decide) ?_
    refine xt_ishr dJx4a65c_grow_92f84_26 ?_
    rw [shr1 (by omega)]
    refine xt_callS (h2 := h + 1) (as := [.int (Int32.ofNat l.length), .int (Int32.ofNat 1), .int (Int32.ofNat (l.length / 2))]) (st := []) dJx4a65c_grow_92f84_27 (mlJx4a65c_73 rfl) rfl (by decide) (by omega) (S_newLen (Q := fun r M1 => r = some (.int (Int32.ofNat (gN l.length))) ∧ M1 = M) (by omega) (by omega) ⟨rfl, rfl⟩) (fun r M1 hp hE => ?_)
    obtain ⟨rfl, rfl⟩ := hp
    show T _ _ _ _ [.int (Int32.ofNat (gN l.length))] _ _
    refine xt_istore_n (i := 3) (lv' := [(3, .int (Int32.ofNat (gN l.length))), (2, .int (Int32.ofNat l.length)), (0, .ref a), (1, .int (Int32.ofNat (l.length + 1)))]) dJx4a65c_grow_92f84_30 rfl (by show (_ : Nat) < 4; decide) rfl ?_
    refine xt_aload_n (j := 2) dJx4a65c_grow_92f84_31 rfl rfl ?_
    refine xt_aload_n (j := 2) dJx4a65c_grow_92f84_32 rfl rfl ?_
    refine xt_getR (b := b) dJx4a65c_grow_92f84_33 (flJx4a65c_9 rfl) ft_1_1 ha.1 ha.2 hr ?_
    refine xt_iload_n (j := 0) dJx4a65c_grow_92f84_36 rfl rfl ?_
    refine xt_callS (h2 := h + 2) (as := [.ref b, .int (Int32.ofNat (gN l.length))]) (st := [.ref a]) dJx4a65c_grow_92f84_37 (mlJx4a65c_66 rfl) rfl (by simp [Value.category]) (Nat.le_refl _) (S_copyO2 (Q := fun r M2 => r = some (.ref (mN M1)) ∧ M2 = wCr (nwA M1 24 (gN l.length)) b (mN M1) 0 0 l.length) ob hL gb.1 (by omega) hk (fun j hj y hy => ?_) ⟨rfl, rfl⟩) (fun r M2 hp hE2 => ?_)
    · rw [hg j hj] at hy
      cases hy
      refine hel _ ?_
      rw [List.getD_eq_getElem?_getD, List.getElem?_eq_getElem hj]
      exact List.getElem_mem hj
    obtain ⟨rfl, rfl⟩ := hp
    show T _ _ _ _ [.ref (mN M1), .ref a] _ _
    refine xt_dup_x1 dJx4a65c_grow_92f84_40 rfl rfl ?_
    have ha1 : ok (nwA M1 24 (gN l.length)) a 1 := ok_nwA ha
    refine xt_putR dJx4a65c_grow_92f84_41 (flJx4a65c_9 rfl) ft_1_1 rfl (show a < mN (wCr (nwA M1 24 (gN l.length)) b (mN M1) 0 0 l.length) from ha1.1) (show mK (wCr (nwA M1 24 (gN l.length)) b (mN M1) 0 0 l.length) a = 1 from ha1.2) ?_
    refine xt_areturn (rt := .array (.object "java/lang/Object")) dJx4a65c_grow_92f84_44 rfl (Or.inr ⟨_, rfl⟩) (H _ (gN l.length) ?_)
    have eb : mAR (nwA M1 24 (gN l.length)) b = mAR M1 b := va_up_ne _ _ (Nat.ne_of_lt ob.1)
    refine ⟨⟨mE_nwA.tr ⟨Nat.le_refl _, Nat.le_refl _, fun _ _ => ⟨rfl, rfl⟩⟩, fun c hc hn => ⟨rfl, rfl, up2_row hn, va_up_ne _ _ (Nat.ne_of_lt hc), va_up_ne _ _ (Nat.ne_of_lt hc), (va_up_ne _ _ (Nat.ne_of_lt hc)).trans (va_up_ne _ _ (Nat.ne_of_lt hc))⟩⟩, rfl, rfl, fun f hf => up2_ne (fun z => hf z.2), up2_eq, (ok_newA : ok (nwA M1 24 (gN l.length)) (mN M1) 24), va_up_self _ _ _, gb, fun j hj => ?_, rfl, rfl⟩
    show va_up (mAR (nwA M1 24 (gN l.length))) (mN M1) (va_cpy (mAR (nwA M1 24 (gN l.length)) b) (mAR (nwA M1 24 (gN l.length)) (mN M1)) 0 0 l.length) (mN M1) j = _
    rw [va_up_self, eb]
    unfold va_cpy
    rw [if_pos ⟨Nat.zero_le _, by omega⟩, Nat.zero_add, Nat.sub_zero]
    exact hg j hj
theorem S_grow0 (hA : ALp M a b ci l) (hfull : Ful M b l) (hk : ELk ci) (H : ∀ M1 N, Gro M M1 a N l → Q (some (.ref (mN M))) M1) : E (h + 4) mdJx4a65c_grow_d5877 [.ref a] M Q := by
  have ha := hA.1
  refine E.of (by decide) (Nat.le_of_ble_eq_true rfl) (fun _ _ _ => trivial) ?_
  show T _ _ 0 [(0, .ref a)] [] M _
  refine xt_aload_n (j := 0) dJx4a65c_grow_d5877_0 rfl rfl ?_
  refine xt_aload_n (j := 0) dJx4a65c_grow_d5877_1 rfl rfl ?_
  refine xt_getI dJx4a65c_grow_d5877_2 (flJx4a65c_48 rfl) ft_1_2 ha.1 ha.2 ?_
  refine xt_iconst (v := 1) dJx4a65c_grow_d5877_5 (by decide) ?_
  refine xt_iadd dJx4a65c_grow_d5877_6 ?_
  rw [hA.2.1, succ32]
  refine xt_callV (h2 := h + 3) (b := a) (as := [.int (Int32.ofNat (l.length + 1))]) (st := []) dJx4a65c_grow_d5877_7 (mlJx4a65c_69 rfl) rfl ha.1 (by rw [ha.2]; exact ⟨rfl, by decide⟩) (by decide) (Nat.le_refl _) (S_growI (Q := fun r M1 => r = some (.ref (mN M)) ∧ ∃ N, Gro M M1 a N l) hA hfull hk (fun M1 N g => ⟨rfl, N, g⟩)) (fun r M1 hp hE => ?_)
  obtain ⟨rfl, N, g⟩ := hp
  show T _ _ _ _ [.ref (mN M)] _ _
  exact xt_areturn (rt := .array (.object "java/lang/Object")) dJx4a65c_grow_d5877_10 rfl (Or.inr ⟨_, rfl⟩) (H M1 N g)
theorem add3_tail {n : Nat} (ha : ok M a 1) (hb : ok M b 24) (hn : n < mL M b) (hL : mL M b ≤ 1000000) (hk : ELk ci) (hv : ELc M ci v) (H : Q none (wI (wAR M b n (some v)) a 2 (Int32.ofNat (n + 1)))) : T h mdJx4a65c_add_72be8 11 [(0, .ref a), (1, .ref v), (2, .ref b), (3, .int (Int32.ofNat n))] [] M Q := by
  refine xt_aload_n (j := 2) dJx4a65c_add_72be8_11 rfl rfl ?_
  refine xt_iload_n (j := 3) dJx4a65c_add_72be8_12 rfl rfl ?_
  refine xt_aload_n (j := 1) dJx4a65c_add_72be8_13 rfl rfl ?_
  refine xt_aastO (ci := ci) dJx4a65c_add_72be8_14 hb (vp_of hn (by omega)) hk hv ?_
  rw [lt32 (by omega)]
  refine xt_aload_n (j := 0) dJx4a65c_add_72be8_15 rfl rfl ?_
  refine xt_iload_n (j := 3) dJx4a65c_add_72be8_16 rfl rfl ?_
  refine xt_iconst (v := 1) dJx4a65c_add_72be8_17 (by decide) ?_
  refine xt_iadd dJx4a65c_add_72be8_18 ?_
  rw [succ32]
  refine xt_putI dJx4a65c_add_72be8_19 (flJx4a65c_48 rfl) ty_1_2 rfl (show a < mN (wAR M b n (some v)) from ha.1) (show mK (wAR M b n (some v)) a = 1 from ha.2) ?_
  exact xt_return dJx4a65c_add_72be8_22 rfl H
theorem getD_apN {l : List Nat} {v j : Nat} (h : j < l.length + 1) : (l ++ [v]).getD j 0 = if j = l.length then v else l.getD j 0 := by
  rw [List.getD_eq_getElem?_getD, List.getD_eq_getElem?_getD]
  by_cases hj : j = l.length
  · rw [if_pos hj, hj, List.getElem?_append_right (Nat.le_refl _), Nat.sub_self]; rfl
  · rw [if_neg hj, List.getElem?_append_left (by omega)]
theorem al_fin (ha : ok M a 1) (hb : ok M b 24) (hr : mR M a 1 = some b) (hn : l.length < mL M b) (hL : mL M b ≤ 1000000) (hl : l.length < 100000) (hel : ∀ x ∈ l, ELc M ci x) (hv : ELc M ci v) (hg : ∀ i, i < l.length → mAR M b i = some (l.getD i 0)) : ALp (wI (wAR M b l.length (some v)) a 2 (Int32.ofNat (l.length + 1))) a b ci (l ++ [v]) := by
  have e : (l ++ [v]).length = l.length + 1 := by rw [List.length_append]; rfl
  refine ⟨ha, by rw [mI_own, e], by omega, fun x hx => ?_, hr, Or.inr ⟨hb, by rw [e]; exact hn, by show 1 ≤ mL M b; omega, hL, fun i hi => ?_⟩⟩
  · rcases List.mem_append.mp hx with q | q
    · exact (hel x q).e ⟨Nat.le_refl _, Nat.le_refl _, fun _ _ => ⟨rfl, rfl⟩⟩
    · rw [List.mem_singleton.mp q]
      exact hv.e ⟨Nat.le_refl _, Nat.le_refl _, fun _ _ => ⟨rfl, rfl⟩⟩
  · rw [e] at hi
    rw [getD_apN hi]
    show up2 (mAR M) b l.length (some v) b i = _
    by_cases q : i = l.length
    · rw [if_pos q, q]; exact up2_eq
    · rw [if_neg q, up2_ne (fun z => q z.2)]; exact hg i (by omega)
theorem C_add3 (hA : ALp M a b ci l) (hl : l.length < 100000) (hk : ELk ci) (hv : ELc M ci v) (H : ∀ M' b', ALp M' a b' ci (l ++ [v]) → ALF M M' a b b' l.length → Q none M') : E (h + 5) mdJx4a65c_add_72be8 [.ref a, .ref v, .ref b, .int (Int32.ofNat l.length)] M Q := by
  obtain ⟨ha, hs, hl2, hel, hr, hb⟩ := id hA
  refine E.of (by decide) (Nat.le_of_ble_eq_true rfl) (fun _ _ _ => trivial) ?_
  show T _ _ 0 [(0, .ref a), (1, .ref v), (2, .ref b), (3, .int (Int32.ofNat l.length))] [] M _
  refine xt_iload_n (j := 3) dJx4a65c_add_72be8_0 rfl rfl ?_
  refine xt_aload_n (j := 2) dJx4a65c_add_72be8_1 rfl rfl ?_
  -- the row is full
  have full : Ful M b l → T (h + 5) mdJx4a65c_add_72be8 6 [(0, .ref a), (1, .ref v), (2, .ref b), (3, .int (Int32.ofNat l.length))] [] M Q := by
    intro hf
    refine xt_aload_n (j := 0) dJx4a65c_add_72be8_6 rfl rfl ?_
    refine xt_callV (h2 := h + 4) (b := a) (as := []) (st := []) dJx4a65c_add_72be8_7 (mlJx4a65c_129 rfl) rfl ha.1 (by rw [ha.2]; exact ⟨rfl, by decide⟩) (by decide) (Nat.le_refl _) (S_grow0 (Q := fun r M1 => r = some (.ref (mN M)) ∧ ∃ N, Gro M M1 a N l) hA hf hk (fun M1 N g => ⟨rfl, N, g⟩)) (fun r M1 hp hE => ?_)
    obtain ⟨rfl, N, g⟩ := hp
    show T _ _ _ _ [.ref (mN M)] _ _
    refine xt_astore_n (i := 2) (lv' := [(2, .ref (mN M)), (0, .ref a), (1, .ref v), (3, .int (Int32.ofNat l.length))]) dJx4a65c_add_72be8_10 rfl (by show (_ : Nat) < 4; decide) rfl ?_
    refine xt_sub [1, 2, 0, 3] rfl ?_
    obtain ⟨g1, g2, g3, g4, g5, g6, g7, g8, g9, gA, gB⟩ := g
    have ha1 := ok_E ha g1.1
    have hne : a ≠ mN M := Nat.ne_of_lt ha.1
    have nab : ¬ (a = mN M ∧ (2 : Nat) = 1) := fun z => hne z.1
    refine add3_tail (ci := ci) ha1 g6 (by rw [g7]; exact g8.1) (by rw [g7]; omega) hk (hv.e g1.1) (H _ (mN M) (al_fin ha1 g6 g5 (by rw [g7]; exact g8.1) (by rw [g7]; omega) hl (fun x hx => (hel x hx).e g1.1) (hv.e g1.1) g9) ?_)
    refine ⟨⟨g1.1.tr ⟨Nat.le_refl _, Nat.le_refl _, fun _ _ => ⟨rfl, rfl⟩⟩, fun c hc hn => ?_⟩, fun f f0 f2 => ?_, g3, fun f f1 => g4 f f1, Or.inr rfl, by show mN M1 ≤ _; omega, by show mS M1 ≤ _; omega, fun hb => ?_⟩
    · have nc : c ≠ a := fun z => hn (Or.inl z)
      obtain ⟨r1, r2, r3, r4, r5, r6⟩ := g1.2 c hc nc
      exact ⟨(up2_row nc).trans r1, r2, r3, r4, r5, (up2_row (Nat.ne_of_lt hc)).trans r6⟩
    · show up2 (mI M1) a 2 _ a f = _
      rw [up2_ne (fun z => f2 z.2), g2]
    · show mS M1 + 4 * Lb M b ≤ mS M + 4 * (if mN M < mBig then mL M1 (mN M) else 0) ∧ (Lb M b ≤ 10 + 2 * l.length → (if mN M < mBig then mL M1 (mN M) else 0) ≤ 12 + 2 * l.length)
      rw [if_pos hb, g7]
      have lb : Lb M b ≤ l.length := by
        unfold Lb
        rcases hf with ⟨q1, -⟩ | ⟨-, q2, -⟩
        · rw [if_neg (by rw [q1]; omega)]; exact Nat.zero_le _
        · split
          · omega
          · exact Nat.zero_le _
      omega
  rcases hb with ⟨q1, q2⟩ | ⟨ob, hlen, hpos, hmx, hg⟩
  · have hf : Ful M b l := Or.inl ⟨q1, q2⟩
    have ff := full hf
    rw [q1] at ff ⊢
    refine xt_spEl dJx4a65c_add_72be8_2 ?_
    exact xt_icmp_ne (tgt := 11) dJx4a65c_add_72be8_3 (by decide) (fun hc => absurd (by rw [q2]; rfl) hc) (fun _ => ff)
  · refine xt_alen dJx4a65c_add_72be8_2 ob.1 (Or.inr (Or.inr (Or.inr (Or.inr (Or.inl ob.2))))) ?_
    refine xt_icmp_ne (tgt := 11) dJx4a65c_add_72be8_3 (by decide) (fun hc => ?_) (fun hc => full (Or.inr ⟨ob, (inj32 (by omega) (by omega) hc).symm, by have := inj32 (by omega) (by omega) hc; omega, hg⟩))
    have hne : l.length ≠ mL M b := fun z => hc (by rw [z])
    have hnab : b ≠ a := fun z => by have := ob.2; rw [z, ha.2] at this; exact absurd this (by decide)
    refine add3_tail (ci := ci) ha ob (by omega) hmx hk hv (H _ b (al_fin ha ob hr (by omega) hmx hl hel hv hg) ?_)
    refine ⟨⟨⟨Nat.le_refl _, Nat.le_refl _, fun _ _ => ⟨rfl, rfl⟩⟩, fun c hc hn => ⟨up2_row (fun z => hn (Or.inl z)), rfl, rfl, rfl, rfl, up2_row (fun z => hn (Or.inr ⟨z, by rw [z]; exact ob.2⟩))⟩⟩, fun f f0 f2 => up2_ne (fun z => f2 z.2), rfl, fun f f1 => rfl, Or.inl rfl, Nat.le_succ _, by show mS M ≤ _; omega, fun _ => ⟨Nat.le_refl _, fun z => Nat.le_trans z (by omega)⟩⟩
theorem S_add (hA : ALp M a b ci l) (hl : l.length < 100000) (hk : ELk ci) (hv : ELc M ci v) (H : ∀ M' b', ALp M' a b' ci (l ++ [v]) → ALF M M' a b b' l.length → Q (some (.int 1)) M') : E (h + 6) mdJx4a65c_add_9ea2d [.ref a, .ref v] M Q := by
  obtain ⟨ha, hs, hl2, hel, hr, hb⟩ := id hA
  have e0 : mE M (wI M a 0 (mI M a 0 + 1)) := ⟨Nat.le_refl _, Nat.le_refl _, fun _ _ => ⟨rfl, rfl⟩⟩
  have s2 : mI (wI M a 0 (mI M a 0 + 1)) a 2 = Int32.ofNat l.length := (up2_ne (by simp)).trans hs
  have hA1 : ALp (wI M a 0 (mI M a 0 + 1)) a b ci l := ⟨ha, s2, hl2, fun x hx => (hel x hx).e e0, hr, hb⟩
  refine E.of (by decide) (Nat.le_of_ble_eq_true rfl) (fun _ _ _ => trivial) ?_
  show T _ _ 0 [(0, .ref a), (1, .ref v)] [] M _
  refine xt_aload_n (j := 0) dJx4a65c_add_9ea2d_0 rfl rfl ?_
  refine xt_dup dJx4a65c_add_9ea2d_1 rfl ?_
  refine xt_mcG dJx4a65c_add_9ea2d_2 rfl ha ?_
  refine xt_iconst (v := 1) dJx4a65c_add_9ea2d_5 (by decide) ?_
  refine xt_iadd dJx4a65c_add_9ea2d_6 ?_
  refine xt_mcP dJx4a65c_add_9ea2d_7 rfl ha ?_
  obtain ⟨M1, e1⟩ : ∃ z, z = wI M a 0 (mI M a 0 + 1) := ⟨_, rfl⟩
  rw [← e1] at hA1 s2 ⊢
  have ha1 := hA1.1
  refine xt_aload_n (j := 0) dJx4a65c_add_9ea2d_10 rfl rfl ?_
  refine xt_aload_n (j := 1) dJx4a65c_add_9ea2d_11 rfl rfl ?_
  refine xt_aload_n (j := 0) dJx4a65c_add_9ea2d_12 rfl rfl ?_
  refine xt_getR (b := b) dJx4a65c_add_9ea2d_13 (flJx4a65c_9 rfl) ft_1_1 ha1.1 ha1.2 hA1.2.2.2.2.1 ?_
  refine xt_aload_n (j := 0) dJx4a65c_add_9ea2d_16 rfl rfl ?_
  refine xt_getI dJx4a65c_add_9ea2d_17 (flJx4a65c_48 rfl) ft_1_2 ha1.1 ha1.2 ?_
  rw [s2]
  refine xt_callV (h2 := h + 5) (b := a) (as := [.ref v, .ref b, .int (Int32.ofNat l.length)]) (st := []) dJx4a65c_add_9ea2d_20 (mlJx4a65c_131 rfl) rfl ha1.1 (by rw [ha1.2]; exact ⟨rfl, by decide⟩) (by decide) (Nat.le_refl _) (C_add3 (Q := fun r M' => r = none ∧ ∃ b', ALp M' a b' ci (l ++ [v]) ∧ ALF M1 M' a b b' l.length) hA1 hl hk (hv.e (by rw [e1]; exact e0)) (fun M' b' A' F' => ⟨rfl, b', A', F'⟩)) (fun r M2 hp hE => ?_)
  obtain ⟨rfl, b', A', f1, f2, f3, f4, f5, f6, f7⟩ := hp
  show T _ _ _ _ [] _ _
  refine xt_iconst (v := 1) dJx4a65c_add_9ea2d_23 (by decide) ?_
  refine xt_zreturn dJx4a65c_add_9ea2d_24 rfl (Or.inr rfl) (H M2 b' A' ?_)
  rw [e1] at f1 f2 f3 f4 f5 f6 f7
  refine ⟨⟨e0.tr f1.1, fun c hc hn => ?_⟩, fun g g0 g2 => (f2 g g0 g2).trans (up2_ne (fun z => g0 z.2)), f3, f4, f5, f6, f7⟩
  obtain ⟨r1, r2, r3, r4, r5, r6⟩ := f1.2 c hc hn
  exact ⟨r1.trans (up2_row (fun z => hn (Or.inl z))), r2, r3, r4, r5, r6⟩
theorem S_alSize (hA : ALp M a b ci l) (H : Q (some (.int (Int32.ofNat l.length))) M) : E (h + 1) mdJx4a65c_size_8abf5 [.ref a] M Q := by
  refine (C_alSize hA.1).imp (fun r M' _ z => ?_)
  obtain ⟨rfl, rfl⟩ := z
  rw [hA.2.1]
  exact H
theorem C_check15 {i n : Nat} (hi : i < n) (hn : n < 2147483648) : E (h + 2) mdJ15_checkIndex_7cf53 [.int (Int32.ofNat i), .int (Int32.ofNat n)] M (fun r M' => r = some (.int (Int32.ofNat i)) ∧ M' = M) := by
  refine E.of (by decide) (Nat.le_of_ble_eq_true rfl) (fun _ _ _ => trivial) ?_
  show T _ _ 0 [(0, .int (Int32.ofNat i)), (1, .int (Int32.ofNat n))] [] M _
  refine xt_iload_n (j := 0) dJ15_checkIndex_7cf53_0 rfl rfl ?_
  refine xt_iload_n (j := 1) dJ15_checkIndex_7cf53_1 rfl rfl ?_
  refine xt_null dJ15_checkIndex_7cf53_2 ?_
  refine xt_callS (h2 := h + 1) (as := [.int (Int32.ofNat i), .int (Int32.ofNat n), .null]) (st := []) dJ15_checkIndex_7cf53_3 (mlJ15_105 rfl) rfl (by decide) (Nat.le_refl _) (C_check3 rfl (by rw [show (0 : Int32) = Int32.ofNat 0 from rfl, ltn32 (by omega) (by decide)]; omega) ((ltn32 (by omega) hn).mpr hi)) (fun r M1 hp hE => ?_)
  obtain ⟨rfl, rfl⟩ := hp
  show T _ _ _ _ [.int (Int32.ofNat i)] _ _
  exact xt_ireturn dJ15_checkIndex_7cf53_6 rfl ⟨rfl, rfl⟩
theorem S_get {i : Nat} (hA : ALp M a b ci l) (hi : i < l.length) (H : Q (some (.ref (l.getD i 0))) M) : E (h + 3) mdJx4a65c_get_915e3 [.ref a, .int (Int32.ofNat i)] M Q := by
  obtain ⟨ha, hs, hl2, hel, hr, hb⟩ := hA
  rcases hb with ⟨q1, q2⟩ | ⟨ob, hlen, hpos, hmx, hg⟩
  · rw [q2] at hi; exact absurd hi (Nat.not_lt_zero _)
  refine E.of (by decide) (Nat.le_of_ble_eq_true rfl) (fun _ _ _ => trivial) ?_
  show T _ _ 0 [(0, .ref a), (1, .int (Int32.ofNat i))] [] M _
  refine xt_iload_n (j := 1) dJx4a65c_get_915e3_0 rfl rfl ?_
  refine xt_aload_n (j := 0) dJx4a65c_get_915e3_1 rfl rfl ?_
  refine xt_getI dJx4a65c_get_915e3_2 (flJx4a65c_48 rfl) ft_1_2 ha.1 ha.2 ?_
  rw [hs]
  refine xt_callS (h2 := h + 2) (as := [.int (Int32.ofNat i), .int (Int32.ofNat l.length)]) (st := []) dJx4a65c_get_915e3_5 (mlJx4a65c_118 rfl) rfl (by decide) (Nat.le_refl _) (C_check15 hi (by omega)) (fun r M1 hp hE => ?_)
  obtain ⟨rfl, rfl⟩ := hp
  show T _ _ _ _ [.int (Int32.ofNat i)] _ _
  refine xt_pop dJx4a65c_get_915e3_8 rfl ?_
  refine xt_aload_n (j := 0) dJx4a65c_get_915e3_9 rfl rfl ?_
  refine xt_iload_n (j := 1) dJx4a65c_get_915e3_10 rfl rfl ?_
  have hE : E (h + 1) mdJx4a65c_elementData_915e3 [.ref a, .int (Int32.ofNat i)] M1 (fun r M2 => r = some (.ref (l.getD i 0)) ∧ M2 = M1) := by
    refine E.of (by decide) (Nat.le_of_ble_eq_true rfl) (fun _ _ _ => trivial) ?_
    show T _ _ 0 [(0, .ref a), (1, .int (Int32.ofNat i))] [] M1 _
    refine xt_aload_n (j := 0) dJx4a65c_elementData_915e3_0 rfl rfl ?_
    refine xt_getR (b := b) dJx4a65c_elementData_915e3_1 (flJx4a65c_9 rfl) ft_1_1 ha.1 ha.2 hr ?_
    refine xt_iload_n (j := 1) dJx4a65c_elementData_915e3_4 rfl rfl ?_
    refine xt_aald (b := l.getD i 0) dJx4a65c_elementData_915e3_5 ob.1 ob.2 (vp_of (by omega) (by omega)) (by rw [lt32 (by omega)]; exact hg i hi) ?_
    exact xt_areturn (rt := .object "java/lang/Object") dJx4a65c_elementData_915e3_6 rfl (Or.inl ⟨_, rfl⟩) ⟨rfl, rfl⟩
  refine xt_callV (h2 := h + 1) (b := a) (as := [.int (Int32.ofNat i)]) (st := []) dJx4a65c_get_915e3_11 (mlJx4a65c_123 rfl) rfl ha.1 (by rw [ha.2]; exact ⟨rfl, by decide⟩) (by decide) (by omega) hE (fun r M2 hp _ => ?_)
  obtain ⟨rfl, rfl⟩ := hp
  show T _ _ _ _ [.ref (l.getD i 0)] _ _
  exact xt_areturn (rt := .object "java/lang/Object") dJx4a65c_get_915e3_14 rfl (Or.inl ⟨_, rfl⟩) H
end
