/-! what the printed conditions are made of -/
def ok (M : Mem) (a ci : Nat) : Prop := a < mN M ∧ mK M a = ci
theorem ok_E {M M' : Mem} {a ci : Nat} (h : ok M a ci) (e : mE M M') : ok M' a ci := ⟨Nat.lt_of_lt_of_le h.1 e.1, ((e.2.2 a h.1).1).trans h.2⟩
theorem ok_nwO {M : Mem} {a ci c2 n : Nat} (h : ok M a ci) : ok (nwO M c2 n) a ci := ok_E h mE_nwO
theorem ok_nwA {M : Mem} {a ci c2 n : Nat} (h : ok M a ci) : ok (nwA M c2 n) a ci := ok_E h mE_nwA
theorem cat_rf (o : Option Nat) : (va_rf o).category = 1 := by cases o <;> rfl
theorem i32_ofInt {x : Int32} {n : Int} (h : x.toInt = n) : x = Int32.ofInt n := by rw [← h]; exact (Int32.ofInt_toInt x).symm
section OB
variable {h : Nat} {d : MD} {pc : Nat} {lv : List (Nat × Value)} {st : List Value} {M : Mem} {Q : Option Value → Mem → Prop}
theorem xt_getO {a idx ci k : Nat} (hd : decode d.2.1 pc = .ok (.getfield idx, 3)) (hf : fl d idx ci k) (ht : ftX ci k = 2) (ha : a < mN M) (hk : mK M a = ci) (kk : T h d (pc + 3) lv (va_rf (mR M a k) :: st) M Q) : T h d pc lv (.ref a :: st) M Q := by
  rcases ho : mR M a k with _ | b
  · rw [ho] at kk; exact xt_getN hd hf ht ha hk ho kk
  · rw [ho] at kk; exact xt_getR hd hf ht ha hk ho kk
theorem xt_aload_nO {k4 : Fin 4} {i j : Nat} {o : Option Nat} (hd : decode d.2.1 pc = .ok (.aload_n k4, 1)) (hi : (k4 : Nat) = i) (hj : lv[j]? = some (i, va_rf o)) (k : T h d (pc + 1) lv (va_rf o :: st) M Q) : T h d pc lv st M Q := by
  rcases o with _ | b
  · exact xt_aload_nN hd hi hj k
  · exact xt_aload_n hd hi hj k
theorem xt_aloadO {i j : Nat} {o : Option Nat} (hd : decode d.2.1 pc = .ok (.aload i, 2)) (hj : lv[j]? = some (i, va_rf o)) (k : T h d (pc + 2) lv (va_rf o :: st) M Q) : T h d pc lv st M Q := by
  rcases o with _ | b
  · exact xt_aloadN hd hj k
  · exact xt_aload hd hj k
theorem xt_astore_nO {k4 : Fin 4} {i : Nat} {o : Option Nat} {lv' : List (Nat × Value)} (hd : decode d.2.1 pc = .ok (.astore_n k4, 1)) (hi : (k4 : Nat) = i) (hn : i < d.2.2.1) (hl : (i, va_rf o) :: lv.filter (fun q => !(q.1 == i) && !(q.1 + 1 == i && q.2.category == 2)) = lv') (k : T h d (pc + 1) lv' st M Q) : T h d pc lv (va_rf o :: st) M Q := by
  rcases o with _ | b
  · exact xt_astore_nN hd hi hn hl k
  · exact xt_astore_n hd hi hn hl k
theorem xt_astoreO {i : Nat} {o : Option Nat} {lv' : List (Nat × Value)} (hd : decode d.2.1 pc = .ok (.astore i, 2)) (hn : i < d.2.2.1) (hl : (i, va_rf o) :: lv.filter (fun q => !(q.1 == i) && !(q.1 + 1 == i && q.2.category == 2)) = lv') (k : T h d (pc + 2) lv' st M Q) : T h d pc lv (va_rf o :: st) M Q := by
  rcases o with _ | b
  · exact xt_astoreN hd hn hl k
  · exact xt_astore hd hn hl k
theorem xt_areturnO {o : Option Nat} {rt : FieldType} (hd : decode d.2.1 pc = .ok (.areturn, 1)) (hr : d.2.2.2.1 = some rt) (hrt : (∃ n, rt = .object n) ∨ ∃ t, rt = .array t) (hq : Q (some (va_rf o)) M) : T h d pc lv [va_rf o] M Q := by
  rcases o with _ | b
  · exact xt_areturnN hd hr hrt hq
  · exact xt_areturn hd hr hrt hq
/-- a cast to the object's own class -/
def cl2 (d : MD) (idx ci : Nat) : Prop := ci < 14 ∧ Cond.classLink d.1.cls idx (cls ci).1 ∈ TB
theorem xt_cast {a idx ci : Nat} (hd : decode d.2.1 pc = .ok (.checkcast idx, 3)) (hc : cl2 d idx ci) (ha : a < mN M) (hk : mK M a = ci) (kk : T h d (pc + 3) lv (.ref a :: st) M Q) : T h d pc lv (.ref a :: st) M Q :=
  kk.rd (fun p l e R s m args below meth c D cy ad H locs cells slots Q ls hx hb hw hts hK hP w => by
    have h14 := hc.1
    have hc1 : vwCl[ci]? = some (cls ci) := by
      unfold cls
      rw [List.getD_eq_getElem?_getD]
      have : ci < vwCl.length := hc.1
      rw [List.getElem?_eq_getElem this]; rfl
    have hrec := va_recv (s := s) (H := H) hK hP hc1 ((mW_at ha).trans (by rw [cE_obj hk (by omega)]))
    exact va_castE hx hb hw (hts _ hc.2) hrec hd w)
end OB
theorem ft_0_0 : ftX 0 0 = 0 := by decide +kernel
theorem ty_0_0 : tyC 0 0 = .int := by decide +kernel
theorem ft_1_0 : ftX 1 0 = 0 := by decide +kernel
theorem ty_1_0 : tyC 1 0 = .int := by decide +kernel
theorem ft_1_1 : ftX 1 1 = 2 := by decide +kernel
theorem ft_1_2 : ftX 1 2 = 0 := by decide +kernel
theorem ty_1_2 : tyC 1 2 = .int := by decide +kernel
theorem ft_2_0 : ftX 2 0 = 2 := by decide +kernel
theorem ft_2_1 : ftX 2 1 = 2 := by decide +kernel
theorem ft_2_2 : ftX 2 2 = 2 := by decide +kernel
theorem ft_2_3 : ftX 2 3 = 2 := by decide +kernel
theorem ft_2_4 : ftX 2 4 = 0 := by decide +kernel
theorem ty_2_4 : tyC 2 4 = .int := by decide +kernel
theorem ft_2_5 : ftX 2 5 = 2 := by decide +kernel
theorem ft_2_6 : ftX 2 6 = 2 := by decide +kernel
theorem ft_2_7 : ftX 2 7 = 2 := by decide +kernel
theorem ft_2_8 : ftX 2 8 = 2 := by decide +kernel
theorem ft_2_9 : ftX 2 9 = 2 := by decide +kernel
theorem ft_2_10 : ftX 2 10 = 2 := by decide +kernel
theorem ft_2_11 : ftX 2 11 = 2 := by decide +kernel
theorem ft_2_12 : ftX 2 12 = 0 := by decide +kernel
theorem ty_2_12 : tyC 2 12 = .int := by decide +kernel
theorem ft_2_13 : ftX 2 13 = 2 := by decide +kernel
theorem ft_2_14 : ftX 2 14 = 2 := by decide +kernel
theorem ft_2_15 : ftX 2 15 = 0 := by decide +kernel
theorem ty_2_15 : tyC 2 15 = .int := by decide +kernel
theorem ft_2_16 : ftX 2 16 = 0 := by decide +kernel
theorem ty_2_16 : tyC 2 16 = .int := by decide +kernel
theorem ft_3_0 : ftX 3 0 = 2 := by decide +kernel
theorem ft_3_1 : ftX 3 1 = 2 := by decide +kernel
theorem ft_3_2 : ftX 3 2 = 2 := by decide +kernel
theorem ft_3_3 : ftX 3 3 = 2 := by decide +kernel
theorem ft_3_4 : ftX 3 4 = 2 := by decide +kernel
theorem ft_3_5 : ftX 3 5 = 2 := by decide +kernel
theorem ft_3_6 : ftX 3 6 = 2 := by decide +kernel
theorem ft_3_7 : ftX 3 7 = 2 := by decide +kernel
theorem ft_3_8 : ftX 3 8 = 2 := by decide +kernel
theorem ft_3_9 : ftX 3 9 = 0 := by decide +kernel
theorem ty_3_9 : tyC 3 9 = .int := by decide +kernel
theorem ft_3_10 : ftX 3 10 = 0 := by decide +kernel
theorem ty_3_10 : tyC 3 10 = .int := by decide +kernel
theorem ft_3_11 : ftX 3 11 = 0 := by decide +kernel
theorem ty_3_11 : tyC 3 11 = .int := by decide +kernel
theorem ft_3_12 : ftX 3 12 = 0 := by decide +kernel
theorem ty_3_12 : tyC 3 12 = .int := by decide +kernel
theorem ft_3_13 : ftX 3 13 = 0 := by decide +kernel
theorem ty_3_13 : tyC 3 13 = .int := by decide +kernel
theorem ft_3_14 : ftX 3 14 = 0 := by decide +kernel
theorem ty_3_14 : tyC 3 14 = .int := by decide +kernel
theorem ft_3_15 : ftX 3 15 = 0 := by decide +kernel
theorem ty_3_15 : tyC 3 15 = .int := by decide +kernel
theorem ft_3_16 : ftX 3 16 = 0 := by decide +kernel
theorem ty_3_16 : tyC 3 16 = .int := by decide +kernel
theorem ft_3_17 : ftX 3 17 = 2 := by decide +kernel
theorem ft_4_0 : ftX 4 0 = 2 := by decide +kernel
theorem ft_4_1 : ftX 4 1 = 0 := by decide +kernel
theorem ty_4_1 : tyC 4 1 = .int := by decide +kernel
theorem ft_4_2 : ftX 4 2 = 2 := by decide +kernel
theorem ft_4_3 : ftX 4 3 = 2 := by decide +kernel
theorem ft_4_4 : ftX 4 4 = 2 := by decide +kernel
theorem ft_4_5 : ftX 4 5 = 0 := by decide +kernel
theorem ty_4_5 : tyC 4 5 = .int := by decide +kernel
theorem ft_4_6 : ftX 4 6 = 0 := by decide +kernel
theorem ty_4_6 : tyC 4 6 = .int := by decide +kernel
theorem ft_4_7 : ftX 4 7 = 2 := by decide +kernel
theorem ft_4_8 : ftX 4 8 = 2 := by decide +kernel
theorem ft_4_9 : ftX 4 9 = 0 := by decide +kernel
theorem ty_4_9 : tyC 4 9 = .int := by decide +kernel
theorem ft_4_10 : ftX 4 10 = 0 := by decide +kernel
theorem ty_4_10 : tyC 4 10 = .int := by decide +kernel
theorem ft_4_11 : ftX 4 11 = 0 := by decide +kernel
theorem ty_4_11 : tyC 4 11 = .int := by decide +kernel
theorem ft_4_12 : ftX 4 12 = 0 := by decide +kernel
theorem ty_4_12 : tyC 4 12 = .int := by decide +kernel
theorem ft_4_13 : ftX 4 13 = 0 := by decide +kernel
theorem ty_4_13 : tyC 4 13 = .int := by decide +kernel
theorem ft_5_0 : ftX 5 0 = 0 := by decide +kernel
theorem ty_5_0 : tyC 5 0 = .int := by decide +kernel
theorem ft_5_1 : ftX 5 1 = 0 := by decide +kernel
theorem ty_5_1 : tyC 5 1 = .int := by decide +kernel
theorem ft_5_2 : ftX 5 2 = 0 := by decide +kernel
theorem ty_5_2 : tyC 5 2 = .int := by decide +kernel
theorem ft_5_3 : ftX 5 3 = 0 := by decide +kernel
theorem ty_5_3 : tyC 5 3 = .int := by decide +kernel
theorem ft_5_4 : ftX 5 4 = 0 := by decide +kernel
theorem ty_5_4 : tyC 5 4 = .int := by decide +kernel
theorem ft_5_5 : ftX 5 5 = 0 := by decide +kernel
theorem ty_5_5 : tyC 5 5 = .int := by decide +kernel
theorem ft_5_6 : ftX 5 6 = 0 := by decide +kernel
theorem ty_5_6 : tyC 5 6 = .int := by decide +kernel
theorem ft_5_7 : ftX 5 7 = 0 := by decide +kernel
theorem ty_5_7 : tyC 5 7 = .int := by decide +kernel
theorem ft_5_8 : ftX 5 8 = 0 := by decide +kernel
theorem ty_5_8 : tyC 5 8 = .int := by decide +kernel
theorem ft_5_9 : ftX 5 9 = 0 := by decide +kernel
theorem ty_5_9 : tyC 5 9 = .int := by decide +kernel
theorem ft_5_10 : ftX 5 10 = 0 := by decide +kernel
theorem ty_5_10 : tyC 5 10 = .int := by decide +kernel
theorem ft_5_11 : ftX 5 11 = 0 := by decide +kernel
theorem ty_5_11 : tyC 5 11 = .int := by decide +kernel
theorem ft_5_12 : ftX 5 12 = 0 := by decide +kernel
theorem ty_5_12 : tyC 5 12 = .int := by decide +kernel
theorem ft_6_0 : ftX 6 0 = 2 := by decide +kernel
theorem ft_6_1 : ftX 6 1 = 2 := by decide +kernel
theorem ft_6_2 : ftX 6 2 = 2 := by decide +kernel
theorem ft_6_3 : ftX 6 3 = 0 := by decide +kernel
theorem ty_6_3 : tyC 6 3 = .int := by decide +kernel
theorem ft_6_4 : ftX 6 4 = 0 := by decide +kernel
theorem ty_6_4 : tyC 6 4 = .int := by decide +kernel
theorem ft_6_5 : ftX 6 5 = 0 := by decide +kernel
theorem ty_6_5 : tyC 6 5 = .int := by decide +kernel
theorem ft_6_6 : ftX 6 6 = 0 := by decide +kernel
theorem ty_6_6 : tyC 6 6 = .int := by decide +kernel
theorem ft_6_7 : ftX 6 7 = 2 := by decide +kernel
theorem ft_7_0 : ftX 7 0 = 2 := by decide +kernel
theorem ft_7_1 : ftX 7 1 = 0 := by decide +kernel
theorem ty_7_1 : tyC 7 1 = .int := by decide +kernel
theorem ft_7_2 : ftX 7 2 = 0 := by decide +kernel
theorem ty_7_2 : tyC 7 2 = .boolean := by decide +kernel
theorem ft_7_3 : ftX 7 3 = 0 := by decide +kernel
theorem ty_7_3 : tyC 7 3 = .int := by decide +kernel
theorem ft_7_4 : ftX 7 4 = 0 := by decide +kernel
theorem ty_7_4 : tyC 7 4 = .int := by decide +kernel
theorem ft_7_5 : ftX 7 5 = 2 := by decide +kernel
theorem ft_7_6 : ftX 7 6 = 2 := by decide +kernel
theorem ft_7_7 : ftX 7 7 = 2 := by decide +kernel
theorem ft_7_8 : ftX 7 8 = 2 := by decide +kernel
theorem ft_7_9 : ftX 7 9 = 2 := by decide +kernel
theorem ft_7_10 : ftX 7 10 = 2 := by decide +kernel
theorem ft_7_11 : ftX 7 11 = 2 := by decide +kernel
theorem ft_7_12 : ftX 7 12 = 2 := by decide +kernel
theorem ft_8_0 : ftX 8 0 = 2 := by decide +kernel
theorem ft_8_1 : ftX 8 1 = 0 := by decide +kernel
theorem ty_8_1 : tyC 8 1 = .int := by decide +kernel
theorem ft_8_2 : ftX 8 2 = 2 := by decide +kernel
theorem ft_8_3 : ftX 8 3 = 0 := by decide +kernel
theorem ty_8_3 : tyC 8 3 = .int := by decide +kernel
theorem ft_8_4 : ftX 8 4 = 0 := by decide +kernel
theorem ty_8_4 : tyC 8 4 = .int := by decide +kernel
theorem ft_9_0 : ftX 9 0 = 2 := by decide +kernel
theorem ft_9_1 : ftX 9 1 = 2 := by decide +kernel
theorem ft_9_2 : ftX 9 2 = 0 := by decide +kernel
theorem ty_9_2 : tyC 9 2 = .int := by decide +kernel
theorem ft_9_3 : ftX 9 3 = 0 := by decide +kernel
theorem ty_9_3 : tyC 9 3 = .int := by decide +kernel
theorem ft_9_4 : ftX 9 4 = 2 := by decide +kernel
theorem ft_9_5 : ftX 9 5 = 2 := by decide +kernel
theorem ft_9_6 : ftX 9 6 = 2 := by decide +kernel
theorem ft_9_7 : ftX 9 7 = 0 := by decide +kernel
theorem ty_9_7 : tyC 9 7 = .int := by decide +kernel
theorem ft_9_8 : ftX 9 8 = 0 := by decide +kernel
theorem ty_9_8 : tyC 9 8 = .int := by decide +kernel
theorem ft_9_9 : ftX 9 9 = 0 := by decide +kernel
theorem ty_9_9 : tyC 9 9 = .int := by decide +kernel
theorem ft_9_10 : ftX 9 10 = 0 := by decide +kernel
theorem ty_9_10 : tyC 9 10 = .int := by decide +kernel
theorem ft_9_11 : ftX 9 11 = 1 := by decide +kernel
theorem ty_9_11 : tyC 9 11 = .long := by decide +kernel
theorem ft_9_12 : ftX 9 12 = 0 := by decide +kernel
theorem ty_9_12 : tyC 9 12 = .int := by decide +kernel
theorem ft_9_13 : ftX 9 13 = 0 := by decide +kernel
theorem ty_9_13 : tyC 9 13 = .int := by decide +kernel
theorem ft_10_0 : ftX 10 0 = 2 := by decide +kernel
theorem ft_10_1 : ftX 10 1 = 2 := by decide +kernel
theorem ft_10_2 : ftX 10 2 = 2 := by decide +kernel
theorem ft_10_3 : ftX 10 3 = 2 := by decide +kernel
theorem ft_10_4 : ftX 10 4 = 2 := by decide +kernel
theorem ft_10_5 : ftX 10 5 = 2 := by decide +kernel
theorem ft_10_6 : ftX 10 6 = 2 := by decide +kernel
theorem ft_10_7 : ftX 10 7 = 2 := by decide +kernel
theorem ft_10_8 : ftX 10 8 = 2 := by decide +kernel
theorem ft_10_9 : ftX 10 9 = 0 := by decide +kernel
theorem ty_10_9 : tyC 10 9 = .int := by decide +kernel
theorem ft_10_10 : ftX 10 10 = 0 := by decide +kernel
theorem ty_10_10 : tyC 10 10 = .int := by decide +kernel
theorem ft_11_0 : ftX 11 0 = 2 := by decide +kernel
theorem ft_11_1 : ftX 11 1 = 2 := by decide +kernel
theorem ft_11_2 : ftX 11 2 = 2 := by decide +kernel
theorem ft_11_3 : ftX 11 3 = 2 := by decide +kernel
theorem ft_11_4 : ftX 11 4 = 2 := by decide +kernel
theorem ft_11_5 : ftX 11 5 = 2 := by decide +kernel
theorem ft_11_6 : ftX 11 6 = 2 := by decide +kernel
theorem ft_11_7 : ftX 11 7 = 2 := by decide +kernel
theorem ft_11_8 : ftX 11 8 = 2 := by decide +kernel
theorem ft_12_0 : ftX 12 0 = 2 := by decide +kernel
theorem ft_12_1 : ftX 12 1 = 0 := by decide +kernel
theorem ty_12_1 : tyC 12 1 = .int := by decide +kernel
theorem ft_12_2 : ftX 12 2 = 2 := by decide +kernel
theorem ft_12_3 : ftX 12 3 = 2 := by decide +kernel
theorem ft_12_4 : ftX 12 4 = 2 := by decide +kernel
theorem ft_12_5 : ftX 12 5 = 2 := by decide +kernel
theorem ft_12_6 : ftX 12 6 = 0 := by decide +kernel
theorem ty_12_6 : tyC 12 6 = .int := by decide +kernel
theorem ft_12_7 : ftX 12 7 = 0 := by decide +kernel
theorem ty_12_7 : tyC 12 7 = .int := by decide +kernel
theorem ft_12_8 : ftX 12 8 = 0 := by decide +kernel
theorem ty_12_8 : tyC 12 8 = .int := by decide +kernel
theorem ft_13_0 : ftX 13 0 = 2 := by decide +kernel
theorem ft_13_1 : ftX 13 1 = 0 := by decide +kernel
theorem ty_13_1 : tyC 13 1 = .int := by decide +kernel
theorem ft_13_2 : ftX 13 2 = 2 := by decide +kernel
theorem ft_13_3 : ftX 13 3 = 2 := by decide +kernel
theorem ft_13_4 : ftX 13 4 = 2 := by decide +kernel
theorem ft_13_5 : ftX 13 5 = 0 := by decide +kernel
theorem ty_13_5 : tyC 13 5 = .int := by decide +kernel
theorem ft_13_6 : ftX 13 6 = 0 := by decide +kernel
theorem ty_13_6 : tyC 13 6 = .int := by decide +kernel
theorem ft_13_7 : ftX 13 7 = 0 := by decide +kernel
theorem ty_13_7 : tyC 13 7 = .int := by decide +kernel
theorem ft_13_8 : ftX 13 8 = 2 := by decide +kernel
theorem ft_13_9 : ftX 13 9 = 2 := by decide +kernel
theorem ft_13_10 : ftX 13 10 = 2 := by decide +kernel
theorem ft_13_11 : ftX 13 11 = 2 := by decide +kernel
theorem ft_13_12 : ftX 13 12 = 2 := by decide +kernel
theorem ft_13_13 : ftX 13 13 = 2 := by decide +kernel
theorem ft_13_14 : ftX 13 14 = 2 := by decide +kernel
theorem ft_13_15 : ftX 13 15 = 2 := by decide +kernel
theorem ft_13_16 : ftX 13 16 = 2 := by decide +kernel
theorem ft_13_17 : ftX 13 17 = 2 := by decide +kernel
theorem ft_13_18 : ftX 13 18 = 0 := by decide +kernel
theorem ty_13_18 : tyC 13 18 = .int := by decide +kernel
theorem ft_13_19 : ftX 13 19 = 0 := by decide +kernel
theorem ty_13_19 : tyC 13 19 = .int := by decide +kernel
theorem ft_13_20 : ftX 13 20 = 2 := by decide +kernel
theorem ft_13_21 : ftX 13 21 = 2 := by decide +kernel
theorem ft_13_22 : ftX 13 22 = 2 := by decide +kernel
theorem ft_13_23 : ftX 13 23 = 2 := by decide +kernel
theorem ft_13_24 : ftX 13 24 = 2 := by decide +kernel
theorem ft_13_25 : ftX 13 25 = 2 := by decide +kernel
theorem ft_13_26 : ftX 13 26 = 2 := by decide +kernel
theorem ft_13_27 : ftX 13 27 = 2 := by decide +kernel
theorem ft_13_28 : ftX 13 28 = 2 := by decide +kernel
theorem ft_13_29 : ftX 13 29 = 0 := by decide +kernel
theorem ty_13_29 : tyC 13 29 = .int := by decide +kernel
theorem ft_13_30 : ftX 13 30 = 2 := by decide +kernel
theorem ft_13_31 : ftX 13 31 = 0 := by decide +kernel
theorem ty_13_31 : tyC 13 31 = .int := by decide +kernel
theorem ft_13_32 : ftX 13 32 = 0 := by decide +kernel
theorem ty_13_32 : tyC 13 32 = .int := by decide +kernel
theorem ft_13_33 : ftX 13 33 = 0 := by decide +kernel
theorem ty_13_33 : tyC 13 33 = .int := by decide +kernel
theorem ft_13_34 : ftX 13 34 = 2 := by decide +kernel
theorem ft_13_35 : ftX 13 35 = 2 := by decide +kernel
theorem ft_13_36 : ftX 13 36 = 2 := by decide +kernel
theorem ft_13_37 : ftX 13 37 = 2 := by decide +kernel
theorem ft_13_38 : ftX 13 38 = 2 := by decide +kernel
theorem ft_13_39 : ftX 13 39 = 2 := by decide +kernel
theorem ft_13_40 : ftX 13 40 = 2 := by decide +kernel
theorem ft_13_41 : ftX 13 41 = 2 := by decide +kernel
theorem ft_13_42 : ftX 13 42 = 2 := by decide +kernel
theorem ft_13_43 : ftX 13 43 = 2 := by decide +kernel
theorem ft_13_44 : ftX 13 44 = 2 := by decide +kernel
theorem ft_13_45 : ftX 13 45 = 2 := by decide +kernel
theorem ft_13_46 : ftX 13 46 = 2 := by decide +kernel
theorem ft_13_47 : ftX 13 47 = 2 := by decide +kernel
theorem ft_13_48 : ftX 13 48 = 2 := by decide +kernel
theorem ft_13_49 : ftX 13 49 = 2 := by decide +kernel
theorem ft_13_50 : ftX 13 50 = 2 := by decide +kernel
theorem ft_13_51 : ftX 13 51 = 2 := by decide +kernel
theorem ft_13_52 : ftX 13 52 = 2 := by decide +kernel
theorem ft_13_53 : ftX 13 53 = 0 := by decide +kernel
theorem ty_13_53 : tyC 13 53 = .int := by decide +kernel
theorem ft_13_54 : ftX 13 54 = 2 := by decide +kernel
theorem ft_13_55 : ftX 13 55 = 2 := by decide +kernel
theorem ft_13_56 : ftX 13 56 = 2 := by decide +kernel
theorem ft_13_57 : ftX 13 57 = 2 := by decide +kernel
theorem ft_13_58 : ftX 13 58 = 2 := by decide +kernel
theorem ft_13_59 : ftX 13 59 = 2 := by decide +kernel
theorem ft_13_60 : ftX 13 60 = 0 := by decide +kernel
theorem ty_13_60 : tyC 13 60 = .int := by decide +kernel
theorem ft_13_61 : ftX 13 61 = 2 := by decide +kernel
theorem ft_13_62 : ftX 13 62 = 2 := by decide +kernel
theorem ft_13_63 : ftX 13 63 = 2 := by decide +kernel
theorem ft_13_64 : ftX 13 64 = 2 := by decide +kernel
theorem ft_13_65 : ftX 13 65 = 2 := by decide +kernel
theorem ft_13_66 : ftX 13 66 = 2 := by decide +kernel
theorem ft_13_67 : ftX 13 67 = 2 := by decide +kernel
theorem ft_13_68 : ftX 13 68 = 2 := by decide +kernel
theorem ft_13_69 : ftX 13 69 = 2 := by decide +kernel
theorem ft_13_70 : ftX 13 70 = 2 := by decide +kernel
theorem ft_13_71 : ftX 13 71 = 2 := by decide +kernel
theorem ft_13_72 : ftX 13 72 = 2 := by decide +kernel
theorem ft_13_73 : ftX 13 73 = 2 := by decide +kernel
theorem ft_13_74 : ftX 13 74 = 2 := by decide +kernel
theorem ft_13_75 : ftX 13 75 = 2 := by decide +kernel
theorem ft_13_76 : ftX 13 76 = 2 := by decide +kernel
theorem ft_13_77 : ftX 13 77 = 2 := by decide +kernel
theorem ft_13_78 : ftX 13 78 = 2 := by decide +kernel
theorem ft_13_79 : ftX 13 79 = 2 := by decide +kernel
theorem ft_13_80 : ftX 13 80 = 2 := by decide +kernel
theorem ft_13_81 : ftX 13 81 = 2 := by decide +kernel
theorem ft_13_82 : ftX 13 82 = 2 := by decide +kernel
theorem ft_13_83 : ftX 13 83 = 0 := by decide +kernel
theorem ty_13_83 : tyC 13 83 = .boolean := by decide +kernel
theorem ft_13_84 : ftX 13 84 = 0 := by decide +kernel
theorem ty_13_84 : tyC 13 84 = .int := by decide +kernel
theorem ft_13_85 : ftX 13 85 = 0 := by decide +kernel
theorem ty_13_85 : tyC 13 85 = .int := by decide +kernel
theorem ft_13_86 : ftX 13 86 = 0 := by decide +kernel
theorem ty_13_86 : tyC 13 86 = .int := by decide +kernel
theorem ft_13_87 : ftX 13 87 = 0 := by decide +kernel
theorem ty_13_87 : tyC 13 87 = .int := by decide +kernel
theorem ft_13_88 : ftX 13 88 = 0 := by decide +kernel
theorem ty_13_88 : tyC 13 88 = .int := by decide +kernel
theorem ft_13_89 : ftX 13 89 = 0 := by decide +kernel
theorem ty_13_89 : tyC 13 89 = .boolean := by decide +kernel
theorem ft_13_90 : ftX 13 90 = 2 := by decide +kernel
theorem ft_13_91 : ftX 13 91 = 0 := by decide +kernel
theorem ty_13_91 : tyC 13 91 = .int := by decide +kernel
theorem ft_13_92 : ftX 13 92 = 2 := by decide +kernel
theorem ft_13_93 : ftX 13 93 = 2 := by decide +kernel
theorem ft_13_94 : ftX 13 94 = 2 := by decide +kernel
theorem ft_13_95 : ftX 13 95 = 2 := by decide +kernel
theorem ft_13_96 : ftX 13 96 = 2 := by decide +kernel
theorem ft_13_97 : ftX 13 97 = 2 := by decide +kernel
theorem ft_13_98 : ftX 13 98 = 2 := by decide +kernel
theorem ft_13_99 : ftX 13 99 = 2 := by decide +kernel
theorem ft_13_100 : ftX 13 100 = 2 := by decide +kernel
theorem ft_13_101 : ftX 13 101 = 2 := by decide +kernel
theorem ft_13_102 : ftX 13 102 = 2 := by decide +kernel
theorem ft_13_103 : ftX 13 103 = 2 := by decide +kernel
theorem ft_13_104 : ftX 13 104 = 2 := by decide +kernel
theorem ft_13_105 : ftX 13 105 = 2 := by decide +kernel
theorem ft_13_106 : ftX 13 106 = 2 := by decide +kernel
theorem ft_13_107 : ftX 13 107 = 2 := by decide +kernel
theorem ft_13_108 : ftX 13 108 = 2 := by decide +kernel
theorem ft_13_109 : ftX 13 109 = 2 := by decide +kernel
theorem ft_13_110 : ftX 13 110 = 2 := by decide +kernel
theorem ft_13_111 : ftX 13 111 = 0 := by decide +kernel
theorem ty_13_111 : tyC 13 111 = .int := by decide +kernel
theorem ft_13_112 : ftX 13 112 = 2 := by decide +kernel
theorem ft_13_113 : ftX 13 113 = 0 := by decide +kernel
theorem ty_13_113 : tyC 13 113 = .int := by decide +kernel
theorem ft_13_114 : ftX 13 114 = 2 := by decide +kernel
theorem ft_13_115 : ftX 13 115 = 2 := by decide +kernel
theorem ft_13_116 : ftX 13 116 = 2 := by decide +kernel
theorem ft_13_117 : ftX 13 117 = 2 := by decide +kernel
theorem ft_13_118 : ftX 13 118 = 2 := by decide +kernel
theorem ft_13_119 : ftX 13 119 = 2 := by decide +kernel
theorem ft_13_120 : ftX 13 120 = 2 := by decide +kernel
theorem ft_13_121 : ftX 13 121 = 2 := by decide +kernel
theorem ft_13_122 : ftX 13 122 = 2 := by decide +kernel
theorem ft_13_123 : ftX 13 123 = 0 := by decide +kernel
theorem ty_13_123 : tyC 13 123 = .int := by decide +kernel
theorem ft_13_124 : ftX 13 124 = 0 := by decide +kernel
theorem ty_13_124 : tyC 13 124 = .int := by decide +kernel
theorem ft_13_125 : ftX 13 125 = 2 := by decide +kernel
