/-! Arrays.copyOf of ints; Sums.add -/
set_option maxHeartbeats 1000000 in
theorem S_copyI {h a k : Nat} {M : Mem} {Q : Option Value → Mem → Prop} (ha : ok M a 21) (hne : mL M a ≠ k) (hlt : mL M a ≤ k) (hk : k ≤ 100000000) (H : Q (some (.ref (mN M))) (wCp (nwA M 21 k) a (mN M) 0 0 (mL M a))) : E (h + 2) mdJ7_copyOf_59c91 [.ref a, .int (Int32.ofNat k)] M Q := by
  have hM : ok (nwA M 21 k) a 21 := ok_nwA ha
  have hL : mL (nwA M 21 k) a = mL M a := va_up_ne _ _ (Nat.ne_of_lt ha.1)
  have hL2 : mL (nwA M 21 k) (mN M) = k := va_up_self _ _ _
  refine E.of (by decide) (Nat.le_of_ble_eq_true rfl) (fun _ _ _ => trivial) ?_
  show T _ _ 0 [(0, .ref a), (1, .int (Int32.ofNat k))] [] M _
  refine xt_iload_n (j := 1) dJ7_copyOf_59c91_0 rfl rfl ?_
  refine xt_aload_n (j := 0) dJ7_copyOf_59c91_1 rfl rfl ?_
  refine xt_alen dJ7_copyOf_59c91_2 ha.1 (Or.inr (Or.inl ha.2)) ?_
  refine xt_icmp_ne (tgt := 14) dJ7_copyOf_59c91_3 (by decide) (fun _ => ?_) (fun hc => ?_)
  · refine xt_iload_n (j := 1) dJ7_copyOf_59c91_14 rfl rfl ?_
    refine xt_newI (N := k) dJ7_copyOf_59c91_15 ac_I (by rw [show (0 : Int32) = Int32.ofNat 0 from rfl, ltn32 (by omega) (by decide)]; omega) (lt32 (by omega)) hk ?_
    refine xt_astore_n (i := 2) (lv' := [(2, .ref (mN M)), (0, .ref a), (1, .int (Int32.ofNat k))]) dJ7_copyOf_59c91_17 rfl (by show (_ : Nat) < 3; decide) rfl ?_
    refine xt_aload_n (j := 1) dJ7_copyOf_59c91_18 rfl rfl ?_
    refine xt_iconst (v := 0) dJ7_copyOf_59c91_19 (by decide) ?_
    refine xt_aload_n (j := 0) dJ7_copyOf_59c91_20 rfl rfl ?_
    refine xt_iconst (v := 0) dJ7_copyOf_59c91_21 (by decide) ?_
    refine xt_aload_n (j := 1) dJ7_copyOf_59c91_22 rfl rfl ?_
    refine xt_alen dJ7_copyOf_59c91_23 hM.1 (Or.inr (Or.inl hM.2)) ?_
    refine xt_iload_n (j := 2) dJ7_copyOf_59c91_24 rfl rfl ?_
    refine xt_mmin dJ7_copyOf_59c91_25 (mmJ7_304 rfl) (by omega) (by simp [Value.category]) ?_
    rw [hL, if_neg (by rw [ltn32 (by omega) (by omega)]; omega)]
    have e0 : (0 : Int32).toNatClampNeg = 0 := by decide
    have e1 : (Int32.ofNat (mL M a)).toNatClampNeg = mL M a := lt32 (by omega)
    refine xt_cpyI dJ7_copyOf_59c91_28 (cpJ7_150 rfl) hM ok_newA (by decide) (by decide) (by rw [show (0 : Int32) = Int32.ofNat 0 from rfl, ltn32 (by omega) (by decide)]; omega) (by rw [e0, e1, hL]; omega) (by rw [e0, e1, hL2]; omega) (by omega) (by decide) ?_
    rw [e0, e1]
    refine xt_aload_n (j := 0) dJ7_copyOf_59c91_31 rfl rfl ?_
    exact xt_areturn (rt := .array .int) dJ7_copyOf_59c91_32 rfl (Or.inr ⟨_, rfl⟩) H
  · have hc : Int32.ofNat k = Int32.ofNat (mL M a) := hc
    exact absurd (inj32 (by omega) (by omega) hc).symm hne
theorem fr_cpw {M : Mem} {b a sc k m : Nat} : fr (fun c => c = sc ∨ c = a) M (wR (wCp M b a 0 0 m) sc k (some a)) := ⟨⟨Nat.le_refl _, Nat.le_refl _, fun _ _ => ⟨rfl, rfl⟩⟩, fun c _ hn => ⟨rfl, rfl, up2_row (fun z => hn (Or.inl z)), va_up_ne _ _ (fun z => hn (Or.inr z)), rfl, rfl⟩⟩
/-- the code so far: cell sc of Sums, cell cc of its row -/
def SumP (M : Mem) (sc cc : Nat) (l : List Int32) : Prop := ok M sc 8 ∧ mR M sc 0 = some cc ∧ ok M cc 21 ∧ mI M sc 1 = Int32.ofNat l.length ∧ l.length ≤ mL M cc ∧ 16 ≤ mL M cc ∧ mL M cc ≤ 16 + 2 * l.length ∧ ∀ j, j < l.length → mAI M cc j = l.getD j 0
/-- what Sums.add leaves of the rest -/
def SumF (M M' : Mem) (sc cc cc' : Nat) : Prop := fr (fun c => c = sc ∨ c = cc) M M' ∧ (∀ f, f ≠ 1 → mI M' sc f = mI M sc f) ∧ (∀ f, f ≠ 0 → mR M' sc f = mR M sc f) ∧ mJ M' sc = mJ M sc ∧ mN M' ≤ mN M + 1 ∧ mS M' + 2 * mL M cc = mS M + 2 * mL M' cc' ∧ (cc' = cc ∨ cc' = mN M) ∧ mL M' cc' ≤ 2 * mL M cc
theorem getD_app {l : List Int32} {x : Int32} {j : Nat} (h : j < l.length + 1) : (l ++ [x]).getD j 0 = if j = l.length then x else l.getD j 0 := by
  rw [List.getD_eq_getElem?_getD, List.getD_eq_getElem?_getD]
  by_cases hj : j = l.length
  · rw [if_pos hj, hj, List.getElem?_append_right (Nat.le_refl _), Nat.sub_self]; rfl
  · rw [if_neg hj, List.getElem?_append_left (by omega)]
theorem S_sumAdd {h sc cc : Nat} {l : List Int32} {x : Int32} {M : Mem} {Q : Option Value → Mem → Prop} (hP : SumP M sc cc l) (hsc : sc ≠ cc) (hlim : l.length < 30000) (H : ∀ (M' : Mem) (cc' : Nat), SumP M' sc cc' (l ++ [x]) → SumF M M' sc cc cc' → Q none M') : E (h + 3) mdX6_add [.ref sc, .int x] M Q := by
  obtain ⟨o1, r1, o2, i1, h1, h2, h3, h4⟩ := hP
  refine KX6_add ?_
  unfold DX6_add_0
  refine ⟨o1, cc, r1, o2, fun hc => ?_, fun hc => ?_⟩
  · rw [i1] at hc
    have hlt : l.length < mL M cc := by
      have : l.length ≠ mL M cc := fun z => hc (by rw [z])
      omega
    unfold DX6_add_29
    refine ⟨o1, cc, r1, o2, by rw [i1]; exact vp_of hlt (by omega), fun M4 e4 M5 e5 => ?_⟩
    rw [i1, lt32 (by omega)] at e4
    have i4 : mI M4 sc 1 = Int32.ofNat l.length := by rw [e4, mI_wAI]; exact i1
    rw [i4, succ32] at e5
    refine H M5 cc ⟨?_, ?_, ?_, ?_, ?_, ?_, ?_, ?_⟩ ⟨?_, ?_, ?_, ?_, ?_, ?_, Or.inl rfl, ?_⟩
    · rw [e5, e4]; exact o1
    · rw [e5, e4]; exact r1
    · rw [e5, e4]; exact o2
    · rw [e5, mI_own, List.length_append]; rfl
    · rw [e5, e4, List.length_append]; exact hlt
    · rw [e5, e4]; exact h2
    · rw [e5, e4, List.length_append]; show mL M cc ≤ 16 + 2 * (l.length + 1); omega
    · intro j hj
      rw [List.length_append] at hj
      rw [getD_app hj, e5, mAI_wI, e4, mAI_wAI]
      by_cases hjl : j = l.length
      · rw [if_pos ⟨rfl, hjl⟩, if_pos hjl]
      · rw [if_neg (fun z => hjl z.2), if_neg hjl]
        exact h4 j (by have : j < l.length + 1 := hj; omega)
    · rw [e5, e4]; exact (fr_wAI (S := fun c => c = sc ∨ c = cc) (Or.inr rfl)).tr (fr_wI (S := fun c => c = sc ∨ c = cc) (Or.inl rfl)) (fun _ _ z => z)
    · intro f hf; rw [e5, mI_wI, if_neg (fun z => hf z.2), e4, mI_wAI]
    · intro f _; rw [e5, mR_wI, e4, mR_wAI]
    · rw [e5, mJ_wI, e4, mJ_wAI]
    · rw [e5, mN_wI, e4, mN_wAI]; omega
    · rw [e5, mS_wI, e4, mS_wAI, mL_wI, mL_wAI]
    · rw [e5, e4, mL_wI, mL_wAI]; omega
  · rw [i1] at hc
    have heq : l.length = mL M cc := inj32 (by omega) (by omega) hc
    refine ⟨cc, r1, ?_⟩
    have e2 : mI M sc 1 * 2 = Int32.ofNat (mL M cc * 2) := by rw [i1, heq, Int32.ofNat_mul]; rfl
    rw [e2]
    refine S_copyI o2 (by omega) (by omega) (by omega) (fun _ => ⟨_, rfl, fun M7 e7 => ?_⟩)
    have nsc : sc ≠ mN M := Nat.ne_of_lt o1.1
    have ncc : cc ≠ mN M := Nat.ne_of_lt o2.1
    have o7 : ok M7 sc 8 := by rw [e7]; exact ok_nwA (n := mL M cc * 2) o1
    have q7 : ok M7 (mN M) 21 := by rw [e7]; exact ok_newA (n := mL M cc * 2)
    have r7 : mR M7 sc 0 = some (mN M) := by rw [e7, mR_wR, if_pos ⟨rfl, rfl⟩]
    have l7 : mL M7 (mN M) = mL M cc * 2 := by rw [e7]; exact va_up_self _ _ _
    have i7 : mI M7 = mI M := by rw [e7]; rfl
    unfold DX6_add_29
    refine ⟨o7, mN M, r7, q7, by rw [i7, i1, l7]; exact vp_of (by omega) (by omega), fun M4 e4 M5 e5 => ?_⟩
    rw [i7, i1, lt32 (by omega)] at e4
    have i4 : mI M4 sc 1 = Int32.ofNat l.length := by rw [e4, mI_wAI, i7]; exact i1
    rw [i4, succ32] at e5
    have f7 : fr (fun c => c = sc ∨ c = cc) M M7 := by
      rw [e7]
      refine (fr_nwA).tr (S1 := fun c => c = sc ∨ c = mN M) fr_cpw (fun a ha z => ?_)
      rcases z with z | z
      · exact Or.inl z
      · omega
    have f5 : fr (fun c => c = sc ∨ c = cc) M M5 := by
      refine f7.tr (S1 := fun c => c = sc ∨ c = mN M) ?_ (fun a ha z => ?_)
      · rw [e5, e4]; exact (fr_wAI (S := fun c => c = sc ∨ c = mN M) (Or.inr rfl)).tr (fr_wI (S := fun c => c = sc ∨ c = mN M) (Or.inl rfl)) (fun _ _ z => z)
      · rcases z with z | z
        · exact Or.inl z
        · omega
    have l5 : mL M5 (mN M) = mL M cc * 2 := by rw [e5, e4]; exact l7
    refine H M5 (mN M) ⟨?_, ?_, ?_, ?_, ?_, ?_, ?_, ?_⟩ ⟨f5, ?_, ?_, ?_, ?_, ?_, Or.inr rfl, ?_⟩
    · rw [e5, e4]; exact o7
    · rw [e5, e4]; exact r7
    · rw [e5, e4]; exact q7
    · rw [e5, mI_own, List.length_append]; rfl
    · rw [l5, List.length_append]; show l.length + 1 ≤ _; omega
    · rw [l5]; omega
    · rw [l5, List.length_append]; show _ ≤ 16 + 2 * (l.length + 1); omega
    · intro j hj
      rw [List.length_append] at hj
      rw [getD_app hj, e5, mAI_wI, e4, mAI_wAI]
      by_cases hjl : j = l.length
      · rw [if_pos ⟨rfl, hjl⟩, if_pos hjl]
      · rw [if_neg (fun z => hjl z.2), if_neg hjl]
        have hj2 : j < l.length := by have : j < l.length + 1 := hj; omega
        rw [← h4 j hj2, e7]
        show va_up (mAI (nwA M 21 (mL M cc * 2))) (mN M) (va_cpy (mAI (nwA M 21 (mL M cc * 2)) cc) _ 0 0 (mL M cc)) (mN M) j = mAI M cc j
        rw [va_up_self]
        unfold va_cpy
        rw [if_pos ⟨Nat.zero_le _, by omega⟩, Nat.zero_add, Nat.sub_zero]
        show va_up (mAI M) (mN M) _ cc j = _
        rw [va_up_ne _ _ ncc]
    · intro f hf; rw [e5, mI_wI, if_neg (fun z => hf z.2), e4, mI_wAI, i7]
    · intro f hf; rw [e5, mR_wI, e4, mR_wAI, e7, mR_wR, if_neg (fun z => hf z.2)]; rfl
    · rw [e5, mJ_wI, e4, mJ_wAI, e7]; rfl
    · rw [e5, mN_wI, e4, mN_wAI, e7]; exact Nat.le_refl _
    · rw [l5, e5, mS_wI, e4, mS_wAI, e7]
      show mS M + mL M cc * 2 + 2 * mL M cc = _
      omega
    · rw [l5]; omega
