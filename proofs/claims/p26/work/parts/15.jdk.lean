/-! the JDK's own methods that the class calls: Strings, lists (first those that a new object needs) -/
section JD
variable {h : Nat} {d : MD} {pc : Nat} {lv : List (Nat × Value)} {st : List Value} {M : Mem} {Q : Option Value → Mem → Prop}
theorem xt_nreturn {x : Int32} {ty : FieldType} (hd : decode d.2.1 pc = .ok (.ireturn, 1)) (hr : d.2.2.2.1 = some ty) (hn : narrow ty (.int x) = .int x) (hq : Q (some (.int x)) M) : T h d pc lv [.int x] M Q :=
  ret_any hq (fun p l e R s m args below meth c H locs cells slots Qc A ad ls hx hb hrt hlocks hqq hf => W.zret hx hb (hrt.trans hr) hn hqq hf hd hlocks)
/-- a static that is null or some object: what goes on is the same -/
theorem xt_gsF {r0 : Option Value} {M0 : Mem} {idx : Nat} (hd : decode d.2.1 pc = .ok (.getstatic idx, 3)) (hm : Cond.fieldLink d.1.cls idx "jdk/internal/util/Preconditions" "SIOOBE_FORMATTER" "Ljava/util/function/BiFunction;" ∈ TB) (k1 : T h d (pc + 3) lv (.null :: st) M (fun r M2 => r = r0 ∧ M2 = M0)) (k2 : T h d (pc + 3) lv (.ref (mBig + 9) :: st) M (fun r M2 => r = r0 ∧ M2 = M0)) (hq : Q r0 M0) : T h d pc lv st M Q := by
  obtain ⟨r1, N1, v1, rfl, rfl⟩ := k1
  obtain ⟨r2, N2, v2, rfl, rfl⟩ := k2
  refine ⟨_, _, ⟨v1.1, fun hb p l e s m args below meth c D cy A M0 ba sp H locs ls X h1 hP hD hS hl => ?_⟩, hq⟩
  have w1 := v1.2 hb p l e s m args below meth c D cy A M0 ba sp H locs ls X h1 hP hD hS hl
  have w2 := v2.2 hb p l e s m args below meth c D cy A M0 ba sp H locs ls X h1 hP hD hS hl
  rw [cv_sp] at w2
  rcases X.2.2.2.2.2.2.2.2.2.2.2.1.2.2.2.2.2.2.2.1 with hz | hz
  · exact va_gets X.1 X.2.1 hz hS X.2.2.2.1 (X.2.2.2.2.2.2.2.1 _ hm) (fun _ q => q) hd w1
  · exact va_gets X.1 X.2.1 hz hS X.2.2.2.1 (X.2.2.2.2.2.2.2.1 _ hm) (fun _ q => q) hd w2
theorem wJ0_38 : Cond.fieldLink mdJ0_coder_7d493.1.cls 38 "java/lang/String" "COMPACT_STRINGS" "Z" ∈ TB := tbL tbk_1 134 (by decide +kernel) rfl
theorem wJ0_9 : Cond.fieldLink mdJ0_coder_7d493.1.cls 9 "java/lang/String" "value" "[B" ∈ TB := tbL tbk_12 18 (by decide +kernel) rfl
theorem wJ0_15 : Cond.fieldLink mdJ0_coder_7d493.1.cls 15 "java/lang/String" "coder" "B" ∈ TB := tbL tbk_12 19 (by decide +kernel) rfl
theorem wJ0_1053 : Cond.fieldLink mdJ0_coder_7d493.1.cls 1053 "jdk/internal/util/Preconditions" "SIOOBE_FORMATTER" "Ljava/util/function/BiFunction;" ∈ TB := tbL tbk_1 150 (by decide +kernel) rfl
theorem wJx_39 : Cond.fieldLink mdJx4a65c_init_da8c8.1.cls 39 "java/util/ArrayList" "DEFAULTCAPACITY_EMPTY_ELEMENTDATA" "[Ljava/lang/Object;" ∈ TB := tbL tbk_1 49 (by decide +kernel) rfl
theorem flJxc_7 {d : MD} (hc : d.1.cls = RJxc12de) : fl d 7 1 0 := ⟨clk_1, by decide, by decide, by rw [hc]; exact tbL tbk_1 53 (by decide +kernel) rfl⟩
theorem C_coder {i : Nat} (hi : i < 2) : E (h + 1) mdJ0_coder_7d493 [.ref (mBig + (1 + i))] M (fun r M' => r = some (.int 0) ∧ M' = M) := by
  refine E.of (by decide) (Nat.le_of_ble_eq_true rfl) (fun _ _ _ => trivial) ?_
  show T _ _ 0 [(0, .ref (mBig + (1 + i)))] [] M _
  refine xt_gsC dJ0_coder_7d493_0 wJ0_38 ?_
  refine xt_if_eq (tgt := 13) dJ0_coder_7d493_3 (by decide) (fun hc => absurd hc (by decide)) (fun hc => ?_)
  refine xt_aload_n (j := 0) dJ0_coder_7d493_6 rfl rfl ?_
  refine xt_strC dJ0_coder_7d493_7 wJ0_15 hi ?_
  refine xt_goto (tgt := 14) dJ0_coder_7d493_10 (by decide) ?_
  exact xt_nreturn dJ0_coder_7d493_14 rfl rfl ⟨rfl, rfl⟩
theorem C_isLatin1 {i : Nat} (hi : i < 2) : E (h + 1) mdJ0_isLatin1_aae02 [.ref (mBig + (1 + i))] M (fun r M' => r = some (.int 1) ∧ M' = M) := by
  refine E.of (by decide) (Nat.le_of_ble_eq_true rfl) (fun _ _ _ => trivial) ?_
  show T _ _ 0 [(0, .ref (mBig + (1 + i)))] [] M _
  refine xt_gsC dJ0_isLatin1_aae02_0 wJ0_38 ?_
  refine xt_if_eq (tgt := 17) dJ0_isLatin1_aae02_3 (by decide) (fun hc => absurd hc (by decide)) (fun hc => ?_)
  refine xt_aload_n (j := 0) dJ0_isLatin1_aae02_6 rfl rfl ?_
  refine xt_strC dJ0_isLatin1_aae02_7 wJ0_15 hi ?_
  refine xt_if_ne (tgt := 17) dJ0_isLatin1_aae02_10 (by decide) (fun hc => absurd rfl hc) (fun hc => ?_)
  refine xt_iconst (v := 1) dJ0_isLatin1_aae02_13 (by decide) ?_
  refine xt_goto (tgt := 18) dJ0_isLatin1_aae02_14 (by decide) ?_
  exact xt_nreturn dJ0_isLatin1_aae02_18 rfl rfl ⟨rfl, rfl⟩
theorem C_length {i : Nat} (hi : i < 2) : E (h + 2) mdJ0_length_8abf5 [.ref (mBig + (1 + i))] M (fun r M' => r = some (.int (Int32.ofNat ([176, 12].getD i 0))) ∧ M' = M) := by
  refine E.of (by decide) (Nat.le_of_ble_eq_true rfl) (fun _ _ _ => trivial) ?_
  show T _ _ 0 [(0, .ref (mBig + (1 + i)))] [] M _
  refine xt_aload_n (j := 0) dJ0_length_8abf5_0 rfl rfl ?_
  refine xt_strV dJ0_length_8abf5_1 wJ0_9 hi ?_
  refine xt_spBl dJ0_length_8abf5_4 hi ?_
  refine xt_aload_n (j := 0) dJ0_length_8abf5_5 rfl rfl ?_
  refine xt_callX (h2 := h + 1) (as := []) dJ0_length_8abf5_6 (mlJ0_335 rfl) rfl (Or.inl ⟨by omega, rfl⟩) (by first | decide | (simp [Value.category]; done)) (Nat.le_refl _) (C_coder hi) (fun r M1 hp hE => ?_)
  obtain ⟨rfl, rfl⟩ := hp
  show T _ _ _ _ [.int 0, .int (Int32.ofNat ([176, 12].getD i 0))] _ _
  refine xt_ishr dJ0_length_8abf5_9 ?_
  rw [sb_shr0]
  exact xt_ireturn dJ0_length_8abf5_10 rfl ⟨rfl, rfl⟩
theorem C_check3 {i n : Int32} {v : Value} (hv : v.category = 1) (h0 : ¬ i < 0) (h1 : i < n) : E (h + 1) mdJ3_checkIndex_8e157 [.int i, .int n, v] M (fun r M' => r = some (.int i) ∧ M' = M) := by
  refine E.of (by decide) (by
    have e1 : (Value.int i).category = 1 := rfl
    have e2 : (Value.int n).category = 1 := rfl
    simp [lg_sl, hv, e1, e2]
    decide) (fun _ _ _ => trivial) ?_
  show T _ _ 0 [(0, .int i), (1, .int n), (2, v)] [] M _
  refine xt_iload_n (j := 0) dJ3_checkIndex_8e157_0 rfl rfl ?_
  refine xt_if_lt (tgt := 9) dJ3_checkIndex_8e157_1 (by decide) (fun hc => absurd hc h0) (fun hc => ?_)
  refine xt_iload_n (j := 0) dJ3_checkIndex_8e157_4 rfl rfl ?_
  refine xt_iload_n (j := 1) dJ3_checkIndex_8e157_5 rfl rfl ?_
  refine xt_icmp_lt (tgt := 16) dJ3_checkIndex_8e157_6 (by decide) (fun hc => ?_) (fun hc => absurd h1 hc)
  refine xt_iload_n (j := 0) dJ3_checkIndex_8e157_16 rfl rfl ?_
  exact xt_ireturn dJ3_checkIndex_8e157_17 rfl ⟨rfl, rfl⟩
theorem C_checkS {i n : Int32} (h0 : ¬ i < 0) (h1 : i < n) : E (h + 2) mdJ0_checkIndex_df160 [.int i, .int n] M (fun r M' => r = none ∧ M' = M) := by
  refine E.of (by decide) (Nat.le_of_ble_eq_true rfl) (fun _ _ _ => trivial) ?_
  show T _ _ 0 [(0, .int i), (1, .int n)] [] M _
  refine xt_iload_n (j := 0) dJ0_checkIndex_df160_0 rfl rfl ?_
  refine xt_iload_n (j := 1) dJ0_checkIndex_df160_1 rfl rfl ?_
  refine xt_gsF (r0 := none) (M0 := M) dJ0_checkIndex_df160_2 wJ0_1053 ?_ ?_ ⟨rfl, rfl⟩
  · refine xt_callS (h2 := h + 1) (as := [.int i, .int n, .null]) (st := []) dJ0_checkIndex_df160_5 (mlJ0_1059 rfl) rfl (by decide) (Nat.le_refl _) (C_check3 rfl h0 h1) (fun r M1 hp hE => ?_)
    obtain ⟨rfl, rfl⟩ := hp
    show T _ _ _ _ [.int i] _ _
    refine xt_pop dJ0_checkIndex_df160_8 rfl ?_
    exact xt_return dJ0_checkIndex_df160_9 rfl ⟨rfl, rfl⟩
  · refine xt_callS (h2 := h + 1) (as := [.int i, .int n, .ref (mBig + 9)]) (st := []) dJ0_checkIndex_df160_5 (mlJ0_1059 rfl) rfl (by decide) (Nat.le_refl _) (C_check3 rfl h0 h1) (fun r M1 hp hE => ?_)
    obtain ⟨rfl, rfl⟩ := hp
    show T _ _ _ _ [.int i] _ _
    refine xt_pop dJ0_checkIndex_df160_8 rfl ?_
    exact xt_return dJ0_checkIndex_df160_9 rfl ⟨rfl, rfl⟩
/-- the character at a place of a String constant -/
def chK (i j : Nat) : Int32 := (((txB.getD i []).getD j 0 &&& 255).toUInt32 % 65536).toInt32
theorem C_charL {i : Nat} {k : Int32} (hi : i < 2) (hk : vp_in k ([176, 12].getD i 0)) : E (h + 3) mdJ1_charAt_3b067 [.ref (mBig + (3 + i)), .int k] M (fun r M' => r = some (.int (chK i k.toNatClampNeg)) ∧ M' = M) := by
  have hlt : [176, 12].getD i 0 < 2 ^ 31 := by rcases (show i = 0 ∨ i = 1 by omega) with rfl | rfl <;> decide
  obtain ⟨j, hj, rfl⟩ := vp_in_of hk hlt
  refine E.of (by decide) (Nat.le_of_ble_eq_true rfl) (fun _ _ _ => trivial) ?_
  show T _ _ 0 [(0, .ref (mBig + (3 + i))), (1, .int (nI j))] [] M _
  refine xt_iload_n (j := 1) dJ1_charAt_3b067_0 rfl rfl ?_
  refine xt_aload_n (j := 0) dJ1_charAt_3b067_1 rfl rfl ?_
  refine xt_spBl dJ1_charAt_3b067_2 hi ?_
  refine xt_callS (h2 := h + 2) (as := [.int (nI j), .int (Int32.ofNat ([176, 12].getD i 0))]) (st := []) dJ1_charAt_3b067_3 (mlJ1_9 rfl) rfl (by decide) (Nat.le_refl _) (C_checkS (nI_pos (by omega)) (nI_lt hj hlt)) (fun r M1 hp hE => ?_)
  obtain ⟨rfl, rfl⟩ := hp
  show T _ _ _ _ [] _ _
  refine xt_aload_n (j := 0) dJ1_charAt_3b067_6 rfl rfl ?_
  refine xt_iload_n (j := 1) dJ1_charAt_3b067_7 rfl rfl ?_
  refine xt_spB dJ1_charAt_3b067_8 hi hk ?_
  refine xt_sipush (v := 255) dJ1_charAt_3b067_9 (by decide) ?_
  refine xt_iand dJ1_charAt_3b067_12 ?_
  refine xt_i2c dJ1_charAt_3b067_13 ?_
  exact xt_nreturn dJ1_charAt_3b067_14 rfl (pk_nc _) ⟨rfl, rfl⟩
theorem C_charAt {i : Nat} {k : Int32} (hi : i < 2) (hk : vp_in k ([176, 12].getD i 0)) : E (h + 4) mdJ0_charAt_5068e [.ref (mBig + (1 + i)), .int k] M (fun r M' => r = some (.int (chK i k.toNatClampNeg)) ∧ M' = M) := by
  refine E.of (by decide) (Nat.le_of_ble_eq_true rfl) (fun _ _ _ => trivial) ?_
  show T _ _ 0 [(0, .ref (mBig + (1 + i))), (1, .int k)] [] M _
  refine xt_aload_n (j := 0) dJ0_charAt_5068e_0 rfl rfl ?_
  refine xt_callX (h2 := h + 3) (as := []) (st := []) dJ0_charAt_5068e_1 (mlJ0_492 rfl) rfl (Or.inl ⟨by omega, rfl⟩) (by decide) (Nat.le_refl _) (C_isLatin1 hi) (fun r M1 hp hE => ?_)
  obtain ⟨rfl, rfl⟩ := hp
  show T _ _ _ _ [.int 1] _ _
  refine xt_if_eq (tgt := 16) dJ0_charAt_5068e_4 (by decide) (fun hc => absurd hc (by decide)) (fun hc => ?_)
  refine xt_aload_n (j := 0) dJ0_charAt_5068e_7 rfl rfl ?_
  refine xt_strV dJ0_charAt_5068e_8 wJ0_9 hi ?_
  refine xt_iload_n (j := 1) dJ0_charAt_5068e_11 rfl rfl ?_
  refine xt_callS (h2 := h + 3) (as := [.ref (mBig + (3 + i)), .int k]) (st := []) dJ0_charAt_5068e_12 (mlJ0_495 rfl) rfl (by decide) (Nat.le_refl _) (C_charL hi hk) (fun r M1 hp hE => ?_)
  obtain ⟨rfl, rfl⟩ := hp
  show T _ _ _ _ [.int (chK i k.toNatClampNeg)] _ _
  exact xt_nreturn dJ0_charAt_5068e_15 rfl (pk_nc _) ⟨rfl, rfl⟩
/-! lists -/
theorem C_acInit {a : Nat} : E (h + 1) mdJxa1e45_init_da8c8 [.ref a] M (fun r M' => r = none ∧ M' = M) := by
  refine E.of (by decide) (Nat.le_of_ble_eq_true rfl) (fun _ _ _ => trivial) ?_
  show T _ _ 0 [(0, .ref a)] [] M _
  refine xt_aload_n (j := 0) dJxa1e45_init_da8c8_0 rfl rfl ?_
  refine xt_objInit dJxa1e45_init_da8c8_1 (oiJxa1e45_1 rfl) (by decide) (Nat.succ_le_succ (Nat.zero_le _)) ?_
  exact xt_return dJxa1e45_init_da8c8_4 rfl ⟨rfl, rfl⟩
theorem C_alInit0 {a : Nat} (ha : ok M a 1) : E (h + 2) mdJxc12de_init_da8c8 [.ref a] M (fun r M' => r = none ∧ M' = wI M a 0 0) := by
  refine E.of (by decide) (Nat.le_of_ble_eq_true rfl) (fun _ _ _ => trivial) ?_
  show T _ _ 0 [(0, .ref a)] [] M _
  refine xt_aload_n (j := 0) dJxc12de_init_da8c8_0 rfl rfl ?_
  refine xt_callI (h2 := h + 1) (as := []) (st := []) dJxc12de_init_da8c8_1 (mlJxc12de_1 rfl) rfl (by decide) (Nat.le_refl _) C_acInit (fun r M1 hp hE => ?_)
  obtain ⟨rfl, rfl⟩ := hp
  show T _ _ _ _ [] _ _
  refine xt_aload_n (j := 0) dJxc12de_init_da8c8_4 rfl rfl ?_
  refine xt_iconst (v := 0) dJxc12de_init_da8c8_5 (by decide) ?_
  refine xt_putI dJxc12de_init_da8c8_6 (flJxc_7 rfl) ty_1_0 rfl ha.1 ha.2 ?_
  exact xt_return dJxc12de_init_da8c8_9 rfl ⟨rfl, rfl⟩
/-- new ArrayList() -/
theorem C_alInit {a : Nat} (ha : ok M a 1) : E (h + 3) mdJx4a65c_init_da8c8 [.ref a] M (fun r M' => r = none ∧ M' = wR (wI M a 0 0) a 1 (some (mBig + 5))) := by
  refine E.of (by decide) (Nat.le_of_ble_eq_true rfl) (fun _ _ _ => trivial) ?_
  show T _ _ 0 [(0, .ref a)] [] M _
  refine xt_aload_n (j := 0) dJx4a65c_init_da8c8_0 rfl rfl ?_
  refine xt_callI (h2 := h + 2) (as := []) (st := []) dJx4a65c_init_da8c8_1 (mlJx4a65c_1 rfl) rfl (by decide) (Nat.le_refl _) (C_alInit0 ha) (fun r M1 hp hE => ?_)
  obtain ⟨rfl, rfl⟩ := hp
  show T _ _ _ _ [] _ _
  refine xt_aload_n (j := 0) dJx4a65c_init_da8c8_4 rfl rfl ?_
  refine xt_gsE dJx4a65c_init_da8c8_5 wJx_39 ?_
  refine xt_putR dJx4a65c_init_da8c8_8 (flJx4a65c_9 rfl) ft_1_1 rfl ha.1 ha.2 ?_
  exact xt_return dJx4a65c_init_da8c8_11 rfl ⟨rfl, rfl⟩
theorem C_alSize {a : Nat} (ha : ok M a 1) : E (h + 1) mdJx4a65c_size_8abf5 [.ref a] M (fun r M' => r = some (.int (mI M a 2)) ∧ M' = M) := by
  refine E.of (by decide) (Nat.le_of_ble_eq_true rfl) (fun _ _ _ => trivial) ?_
  show T _ _ 0 [(0, .ref a)] [] M _
  refine xt_aload_n (j := 0) dJx4a65c_size_8abf5_0 rfl rfl ?_
  refine xt_getI dJx4a65c_size_8abf5_1 (flJx4a65c_48 rfl) ft_1_2 ha.1 ha.2 ?_
  exact xt_ireturn dJx4a65c_size_8abf5_4 rfl ⟨rfl, rfl⟩
end JD
