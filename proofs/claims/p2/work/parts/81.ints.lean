/-! Integers: boxes, cached or new -/
def IvR (M : Mem) (b : Nat) (x : Int32) : Prop := (ok M b 0 ∧ mI M b 0 = x) ∨ (∃ k, k < 256 ∧ b = mBig + (1000 + k) ∧ vb_c k = x)
theorem IvR.el {M : Mem} {b : Nat} {x : Int32} (h : IvR M b x) : ELc M 0 b := by
  rcases h with h | ⟨k, hk, e, -⟩
  · exact Or.inl h.1
  · exact Or.inr ⟨rfl, k, hk, e⟩
theorem IvR.fr {M M' : Mem} {b : Nat} {x : Int32} {S : Nat → Prop} (h : IvR M b x) (k : fr S M M') (hS : ∀ a, a < mN M → S a → mK M a ≠ 0) : IvR M' b x := by
  rcases h with ⟨h1, h2⟩ | h
  · refine Or.inl ⟨ok_E h1 k.1, ?_⟩
    rw [(k.2 b h1.1 (fun z => hS b h1.1 z h1.2)).1]
    exact h2
  · exact Or.inr h
/-- what making a box leaves of the rest -/
def VoF (M M' : Mem) : Prop := fr (fun _ => False) M M' ∧ mN M' ≤ mN M + 1 ∧ mS M' ≤ mS M + 1
section
variable {h : Nat} {M : Mem} {Q : Option Value → Mem → Prop}
theorem C_numInit {a : Nat} : E (h + 1) mdJxd2413_init_da8c8 [.ref a] M (fun r M' => r = none ∧ M' = M) := by
  refine E.of (by decide) (Nat.le_of_ble_eq_true rfl) (fun _ _ _ => trivial) ?_
  show T _ _ 0 [(0, .ref a)] [] M _
  refine xt_aload_n (j := 0) dJxd2413_init_da8c8_0 rfl rfl ?_
  refine xt_objInit dJxd2413_init_da8c8_1 (oiJxd2413_1 rfl) (by decide) (Nat.succ_le_succ (Nat.zero_le _)) ?_
  exact xt_return dJxd2413_init_da8c8_4 rfl ⟨rfl, rfl⟩
theorem C_intInit {a : Nat} {x : Int32} (ha : ok M a 0) : E (h + 2) mdJ6_init_d00df [.ref a, .int x] M (fun r M' => r = none ∧ M' = wI M a 0 x) := by
  refine E.of (by decide) (Nat.le_of_ble_eq_true rfl) (fun _ _ _ => trivial) ?_
  show T _ _ 0 [(0, .ref a), (1, .int x)] [] M _
  refine xt_aload_n (j := 0) dJ6_init_d00df_0 rfl rfl ?_
  refine xt_callI (h2 := h + 1) (as := []) (st := []) dJ6_init_d00df_1 (mlJ6_202 rfl) rfl (by decide) (Nat.le_refl _) C_numInit (fun r M1 hp hE => ?_)
  obtain ⟨rfl, rfl⟩ := hp
  show T _ _ _ _ [] _ _
  refine xt_aload_n (j := 0) dJ6_init_d00df_4 rfl rfl ?_
  refine xt_iload_n (j := 1) dJ6_init_d00df_5 rfl rfl ?_
  refine xt_putI dJ6_init_d00df_6 (flJ6_205 rfl) (by decide +kernel) rfl ha.1 ha.2 ?_
  exact xt_return dJ6_init_d00df_9 rfl ⟨rfl, rfl⟩
theorem wJ6_191 : Cond.fieldLink mdJ6_valueOf_2dffe.1.cls 191 "java/lang/Integer$IntegerCache" "high" "I" ∈ TB := tbL tbk_5 118 (by decide +kernel) rfl
theorem wJ6_195 : Cond.fieldLink mdJ6_valueOf_2dffe.1.cls 195 "java/lang/Integer$IntegerCache" "cache" "[Ljava/lang/Integer;" ∈ TB := tbL tbk_5 120 (by decide +kernel) rfl
theorem cache_c {x : Int32} (h1 : ¬ x < -128) (h2 : ¬ 127 < x) : vp_in (x + 128) 256 ∧ (x + 128).toNatClampNeg < 256 ∧ vb_c (x + 128).toNatClampNeg = x := by
  refine ⟨?_, ?_, ?_⟩
  · ((try simp only [Int32.toNatClampNeg, Int32.lt_iff_toInt_lt, Int32.le_iff_toInt_le, ← Int32.toInt_inj, j_add, j_sub, j_neg, j_mul, j_nat, Int32.reduceToInt, vp_in] at *); omega)
  · ((try simp only [Int32.toNatClampNeg, Int32.lt_iff_toInt_lt, Int32.le_iff_toInt_le, ← Int32.toInt_inj, j_add, j_sub, j_neg, j_mul, j_nat, Int32.reduceToInt, vp_in] at *); omega)
  · unfold vb_c
    ((try simp only [Int32.toNatClampNeg, Int32.lt_iff_toInt_lt, Int32.le_iff_toInt_le, ← Int32.toInt_inj, j_add, j_sub, j_neg, j_mul, j_nat, Int32.reduceToInt, vp_in] at *); omega)
theorem S_valueOf {x : Int32} (H : ∀ M' b, IvR M' b x → VoF M M' → Q (some (.ref b)) M') : E (h + 3) mdJ6_valueOf_2dffe [.int x] M Q := by
  have new : T (h + 3) mdJ6_valueOf_2dffe 23 [(0, .int x)] [] M Q := by
    refine xt_new (ci := 0) dJ6_valueOf_2dffe_23 (nlJ6_1 rfl) ?_
    refine xt_dup dJ6_valueOf_2dffe_26 rfl ?_
    refine xt_iload_n (j := 0) dJ6_valueOf_2dffe_27 rfl rfl ?_
    have oN : ok (nwO M 0 (cls 0).2.2) (mN M) 0 := ⟨Nat.lt_succ_self _, va_up_self _ _ _⟩
    refine xt_callI (h2 := h + 2) (b := mN M) (as := [.int x]) (st := [.ref (mN M)]) dJ6_valueOf_2dffe_28 (mlJ6_199 rfl) rfl (by simp [Value.category]) (Nat.le_refl _) (C_intInit oN) (fun r M1 hp hE => ?_)
    obtain ⟨rfl, e1⟩ := hp
    show T _ _ _ _ [.ref (mN M)] _ _
    refine xt_areturn (rt := .object "java/lang/Integer") dJ6_valueOf_2dffe_31 rfl (Or.inl ⟨_, rfl⟩) (H M1 (mN M) (Or.inl ⟨ok_E oN hE, by rw [e1]; exact up2_eq⟩) ?_)
    rw [e1]
    refine ⟨⟨mE_nwO.tr mE_wI, fun c hc _ => ?_⟩, Nat.le_refl _, Nat.le_refl _⟩
    have nc : c ≠ mN M := Nat.ne_of_lt hc
    exact ⟨(up2_row nc).trans (va_up_ne _ _ nc), va_up_ne _ _ nc, va_up_ne _ _ nc, rfl, rfl, rfl⟩
  refine E.of (by decide) (Nat.le_of_ble_eq_true rfl) (fun _ _ _ => trivial) ?_
  show T _ _ 0 [(0, .int x)] [] M _
  refine xt_iload_n (j := 0) dJ6_valueOf_2dffe_0 rfl rfl ?_
  refine xt_bipush (v := -128) dJ6_valueOf_2dffe_1 (by decide) ?_
  refine xt_icmp_lt (tgt := 23) dJ6_valueOf_2dffe_3 (by decide) (fun _ => new) (fun h1 => ?_)
  refine xt_iload_n (j := 0) dJ6_valueOf_2dffe_6 rfl rfl ?_
  refine xt_gsH dJ6_valueOf_2dffe_7 wJ6_191 ?_
  refine xt_icmp_gt (tgt := 23) dJ6_valueOf_2dffe_10 (by decide) (fun _ => new) (fun h2 => ?_)
  obtain ⟨c1, c2, c3⟩ := cache_c h1 h2
  refine xt_gsI dJ6_valueOf_2dffe_13 wJ6_195 ?_
  refine xt_iload_n (j := 0) dJ6_valueOf_2dffe_16 rfl rfl ?_
  refine xt_sipush (v := 128) dJ6_valueOf_2dffe_17 (by decide) ?_
  refine xt_iadd dJ6_valueOf_2dffe_20 ?_
  refine xt_spI dJ6_valueOf_2dffe_21 c1 ?_
  exact xt_areturn (rt := .object "java/lang/Integer") dJ6_valueOf_2dffe_22 rfl (Or.inl ⟨_, rfl⟩) (H M _ (Or.inr ⟨_, c2, rfl, c3⟩) ⟨fr.rf, Nat.le_succ _, Nat.le_succ _⟩)
theorem S_intValue {b : Nat} {x : Int32} (hb : IvR M b x) (H : Q (some (.int x)) M) : E (h + 1) mdJ6_intValue_8abf5 [.ref b] M Q := by
  refine E.of (by decide) (Nat.le_of_ble_eq_true rfl) (fun _ _ _ => trivial) ?_
  show T _ _ 0 [(0, .ref b)] [] M _
  refine xt_aload_n (j := 0) dJ6_intValue_8abf5_0 rfl rfl ?_
  rcases hb with ⟨h1, h2⟩ | ⟨k, hk, rfl, h2⟩
  · refine xt_getI dJ6_intValue_8abf5_1 (flJ6_205 rfl) (by decide +kernel) h1.1 h1.2 ?_
    rw [h2]
    exact xt_ireturn dJ6_intValue_8abf5_4 rfl H
  · refine xt_intX dJ6_intValue_8abf5_1 (flJ6_205 (d := mdJ6_intValue_8abf5) rfl).2.2.2 hk ?_
    rw [h2]
    exact xt_ireturn dJ6_intValue_8abf5_4 rfl H
/-- in a caller: the box on the stack becomes its number -/
theorem xt_unbox {d : MD} {pc idx cix b : Nat} {lv : List (Nat × Value)} {st : List Value} {x : Int32} (hc : decode d.2.1 pc = .ok (.checkcast cix, 3)) (hd : decode d.2.1 (pc + 3) = .ok (.invokevirtual idx, 3)) (h1 : cl2 d cix 0) (hm : ml d idx 0 0 mdJ6_intValue_8abf5) (hb : IvR M b x) (hcat : (st.map fun v => v.category).sum ≤ 8) (kk : T (h + 2) d (pc + 6) lv (.int x :: st) M Q) : T (h + 2) d pc lv (.ref b :: st) M Q := by
  rcases id hb with ⟨o1, o2⟩ | ⟨k, hk, rfl, h2⟩
  · refine xt_cast hc h1 o1.1 o1.2 ?_
    refine xt_callV (h2 := h + 1) (as := []) (st := st) hd hm rfl o1.1 (by rw [o1.2]; exact ⟨rfl, by decide⟩) hcat (Nat.le_refl _) (S_intValue (Q := fun r M1 => r = some (.int x) ∧ M1 = M) hb ⟨rfl, rfl⟩) (fun r M1 hp hE => ?_)
    obtain ⟨rfl, rfl⟩ := hp
    exact kk
  · refine xt_castX hc h1.2 hk ?_
    refine xt_callX (h2 := h + 1) (as := []) (st := st) hd hm rfl (Or.inr ⟨by omega, rfl⟩) hcat (Nat.le_refl _) (S_intValue (Q := fun r M1 => r = some (.int x) ∧ M1 = M) hb ⟨rfl, rfl⟩) (fun r M1 hp hE => ?_)
    obtain ⟨rfl, rfl⟩ := hp
    exact kk
end
/-- a list of Integers, by their values -/
def ALi (M : Mem) (a b : Nat) (xs : List Int32) : Prop := ∃ l : List Nat, ALp M a b 0 l ∧ l.length = xs.length ∧ ∀ i, i < l.length → IvR M (l.getD i 0) (xs.getD i 0)
