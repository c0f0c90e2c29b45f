/-! lists cleared; the class's clear -/
/-- clear leaves all but the list's size and its row's places -/
def ClN (M M' : Mem) : Prop := mN M' = mN M ∧ mS M' = mS M ∧ mR M' = mR M ∧ mAI M' = mAI M ∧ mAJ M' = mAJ M ∧ mJ M' = mJ M ∧ mK M' = mK M ∧ mL M' = mL M
theorem ClN.tr {M M1 M2 : Mem} (h : ClN M M1) (k : ClN M1 M2) : ClN M M2 := by
  obtain ⟨a1, a2, a3, a4, a5, a6, a7, a8⟩ := h
  obtain ⟨b1, b2, b3, b4, b5, b6, b7, b8⟩ := k
  exact ⟨b1.trans a1, b2.trans a2, b3.trans a3, b4.trans a4, b5.trans a5, b6.trans a6, b7.trans a7, b8.trans a8⟩
theorem clr_loop {h a b n : Nat} {Q : Option Value → Mem → Prop} : ∀ (k i : Nat) (M : Mem), n = i + k → n ≤ 100000 → ok M b 24 → n ≤ mL M b → mL M b ≤ 1000000 → (∀ M', fr (fun c => c = b) M M' → ClN M M' → mI M' = mI M → Q none M') → T h mdJx4a65c_clear_da8c8 27 [(3, .int (Int32.ofNat i)), (2, .int (Int32.ofNat n)), (1, .ref b), (0, .ref a)] [] M Q := by
  intro k
  induction k with
  | zero =>
    intro i M hn hl ob hL hm H
    refine xt_iload_n (j := 0) dJx4a65c_clear_da8c8_27 rfl rfl ?_
    refine xt_iload_n (j := 1) dJx4a65c_clear_da8c8_28 rfl rfl ?_
    refine xt_icmp_ge (tgt := 42) dJx4a65c_clear_da8c8_29 (by decide) (fun hc => ?_) (fun hc => ?_)
    · exact xt_return dJx4a65c_clear_da8c8_42 rfl (H M fr.rf ⟨rfl, rfl, rfl, rfl, rfl, rfl, rfl, rfl⟩ rfl)
    · exact absurd ((le32 (by omega) (by omega)).mpr (by omega)) hc
  | succ k ih =>
    intro i M hn hl ob hL hm H
    refine xt_iload_n (j := 0) dJx4a65c_clear_da8c8_27 rfl rfl ?_
    refine xt_iload_n (j := 1) dJx4a65c_clear_da8c8_28 rfl rfl ?_
    refine xt_icmp_ge (tgt := 42) dJx4a65c_clear_da8c8_29 (by decide) (fun hc => ?_) (fun hc => ?_)
    · have := (le32 (by omega) (by omega)).mp hc
      omega
    refine xt_aload_n (j := 2) dJx4a65c_clear_da8c8_32 rfl rfl ?_
    refine xt_iload_n (j := 0) dJx4a65c_clear_da8c8_33 rfl rfl ?_
    refine xt_null dJx4a65c_clear_da8c8_34 ?_
    refine xt_aastN dJx4a65c_clear_da8c8_35 ob (vp_of (by omega) (by omega)) ?_
    refine xt_iinc (j := 0) (v := Int32.ofNat (i + 1)) (lv' := [(3, .int (Int32.ofNat (i + 1))), (2, .int (Int32.ofNat n)), (1, .ref b), (0, .ref a)]) dJx4a65c_clear_da8c8_36 rfl (succ32 ..) (by show (_ : Nat) < 4; decide) rfl ?_
    refine xt_goto (tgt := 27) dJx4a65c_clear_da8c8_39 (by decide) ?_
    refine ih (i + 1) _ (by omega) hl ob hL hm (fun M' f' e' i' => H M' ((fr_wAR (S := fun c => c = b) rfl).tr f' (fun _ _ z => z)) (ClN.tr ⟨rfl, rfl, rfl, rfl, rfl, rfl, rfl, rfl⟩ e') i')
section
variable {h a b ci : Nat} {l : List Nat} {M : Mem} {Q : Option Value → Mem → Prop}
theorem S_clear (hA : ALp M a b ci l) (H : ∀ M', ALp M' a b ci [] → fr (fun c => c = a ∨ (c = b ∧ mK M c = 24)) M M' → ClN M M' → (∀ f, f ≠ 0 → f ≠ 2 → mI M' a f = mI M a f) → Q none M') : E (h + 1) mdJx4a65c_clear_da8c8 [.ref a] M Q := by
  obtain ⟨ha, hs, hl, hel, hr, hb⟩ := hA
  rcases hb with ⟨q1, q2⟩ | ⟨ob, hlen, hpos, hmx, hg⟩
  · subst q2
    refine S_clear0 ha hr hs (H _ ⟨ha, up2_eq, hl, fun v hv => absurd hv (by simp), hr, Or.inl ⟨q1, rfl⟩⟩ ((fr_wI (S := fun c => c = a ∨ (c = b ∧ mK M c = 24)) (Or.inl rfl)).tr (fr_wI (S := fun c => c = a ∨ (c = b ∧ mK M c = 24)) (Or.inl rfl)) (fun _ _ z => z)) ⟨rfl, rfl, rfl, rfl, rfl, rfl, rfl, rfl⟩ (fun f f0 f2 => ?_))
    rw [mI_wI, if_neg (fun z => f2 z.2), mI_wI, if_neg (fun z => f0 z.2)]
  · refine E.of (by decide) (Nat.le_of_ble_eq_true rfl) (fun _ _ _ => trivial) ?_
    show T _ _ 0 [(0, .ref a)] [] M _
    refine xt_aload_n (j := 0) dJx4a65c_clear_da8c8_0 rfl rfl ?_
    refine xt_dup dJx4a65c_clear_da8c8_1 rfl ?_
    refine xt_mcG dJx4a65c_clear_da8c8_2 rfl ha ?_
    refine xt_iconst (v := 1) dJx4a65c_clear_da8c8_5 (by decide) ?_
    refine xt_iadd dJx4a65c_clear_da8c8_6 ?_
    refine xt_mcP dJx4a65c_clear_da8c8_7 rfl ha ?_
    have s2 : mI (wI M a 0 (mI M a 0 + 1)) a 2 = Int32.ofNat l.length := (up2_ne (by simp)).trans hs
    refine xt_aload_n (j := 0) dJx4a65c_clear_da8c8_10 rfl rfl ?_
    refine xt_getR (b := b) dJx4a65c_clear_da8c8_11 (flJx4a65c_9 rfl) ft_1_1 ha.1 ha.2 hr ?_
    refine xt_astore_n (i := 1) (lv' := [(1, .ref b), (0, .ref a)]) dJx4a65c_clear_da8c8_14 rfl (by show (_ : Nat) < 4; decide) rfl ?_
    refine xt_aload_n (j := 1) dJx4a65c_clear_da8c8_15 rfl rfl ?_
    refine xt_getI dJx4a65c_clear_da8c8_16 (flJx4a65c_48 rfl) ft_1_2 ha.1 ha.2 ?_
    rw [s2]
    refine xt_istore_n (i := 2) (lv' := [(2, .int (Int32.ofNat l.length)), (1, .ref b), (0, .ref a)]) dJx4a65c_clear_da8c8_19 rfl (by show (_ : Nat) < 4; decide) rfl ?_
    refine xt_aload_n (j := 2) dJx4a65c_clear_da8c8_20 rfl rfl ?_
    refine xt_iconst (v := 0) dJx4a65c_clear_da8c8_21 (by decide) ?_
    refine xt_dup_x1 dJx4a65c_clear_da8c8_22 rfl rfl ?_
    refine xt_putI dJx4a65c_clear_da8c8_23 (flJx4a65c_48 rfl) rfl rfl ha.1 ha.2 ?_
    refine xt_istore_n (i := 3) (lv' := [(3, .int 0), (2, .int (Int32.ofNat l.length)), (1, .ref b), (0, .ref a)]) dJx4a65c_clear_da8c8_26 rfl (by show (_ : Nat) < 4; decide) rfl ?_
    obtain ⟨M1, e1⟩ : ∃ z, z = wI (wI M a 0 (mI M a 0 + 1)) a 2 0 := ⟨_, rfl⟩
    rw [← e1]
    have f1 : fr (fun c => c = a) M M1 := by rw [e1]; exact (fr_wI (S := fun c => c = a) rfl).tr (fr_wI (S := fun c => c = a) rfl) (fun _ _ z => z)
    have c1 : ClN M M1 := by rw [e1]; exact ⟨rfl, rfl, rfl, rfl, rfl, rfl, rfl, rfl⟩
    have i1 : mI M1 a 2 = 0 ∧ ∀ f, f ≠ 0 → f ≠ 2 → mI M1 a f = mI M a f := by
      rw [e1]
      exact ⟨up2_eq, fun f f0 f2 => by rw [mI_wI, if_neg (fun z => f2 z.2), mI_wI, if_neg (fun z => f0 z.2)]⟩
    have ob1 : ok M1 b 24 := ok_E ob f1.1
    have l1 : mL M1 b = mL M b := by rw [c1.2.2.2.2.2.2.2]
    clear e1
    refine clr_loop (n := l.length) l.length 0 M1 (by omega) hl ob1 (by omega) (by omega) (fun M' f' c' i' => ?_)
    have c2 := c1.tr c'
    refine H M' ⟨ok_E (ok_E ha f1.1) f'.1, by rw [i']; exact i1.1, Nat.zero_le _, fun v hv => absurd hv (by simp), by rw [c2.2.2.1]; exact hr, Or.inr ⟨ok_E ob1 f'.1, Nat.zero_le _, by rw [c2.2.2.2.2.2.2.2]; exact hpos, by rw [c2.2.2.2.2.2.2.2]; exact hmx, fun i hi => absurd hi (Nat.not_lt_zero _)⟩⟩ ((f1.more (fun _ _ z => Or.inl z)).tr f' (fun c _ z => Or.inr ⟨z, by rw [z]; exact ob.2⟩)) c2 (fun f f0 f2 => by rw [i']; exact i1.2 f f0 f2)
end
section
variable {ow : Nat → Nat} {ga : Nat → Td × PS} {gm : Nat → Nat} {M M' : Mem} {ms gs : List Nat} {mb gb h : Nat} {Q : Option Value → Mem → Prop}
/-- the class's clear: how many modules there were -/
theorem G_clear (hC : CvS ow ga gm M ms gs mb gb) (hb : mN M < mBig) (H : ∀ M', CvS ow ga gm M' [] [] mb gb → ClN M M' → fr (fun c => c = 2 ∨ c = 3 ∨ 132 ≤ c) M M' → Q (some (.int (Int32.ofNat ms.length))) M') : E (h + 2) mdX10_clear [.ref 0] M Q := by
  obtain ⟨F, ⟨a1, a2⟩, ⟨b1, b2⟩, ⟨c1, c2⟩, d, -, -, -, -⟩ := hC
  refine KX10_clear (h := h + 1) ?_
  unfold DX10_clear_0
  refine ⟨ok0 F, 2, rf0_2 F, a1.1, S_alSize (h := h) a1 (fun _ => ⟨_, rfl, 2, rf0_2 F, a1.1, S_clear (h := h) a1 (fun M1 A1 f1 e1 i1 _ => ⟨rfl, ?_⟩)⟩)⟩
  have fx : ∀ {N N' : Mem}, Fix N → mE N N' → ClN N N' → Fix N' := fun F k e => F.of_fr (S := fun _ => True) k (fun e' _ => by rw [e.2.2.1]) (by rw [e.2.2.2.2.1])
  have F1 := fx F f1.1 e1
  have nB : (132 : Nat) < mBig := by unfold mBig; omega
  have hm : 132 ≤ mb := by
    rcases c1 with y | y
    · omega
    · exact y.1
  have hg : 132 ≤ gb := by
    rcases c2 with y | y
    · omega
    · exact y.1
  have ne : gb < mN M → gb ≠ mb := fun y z => by
    rcases c2 with q | q
    · omega
    · rcases c1 with w | w
      · omega
      · rw [z, w.2.2] at q; exact absurd q.2.2 (by decide)
  have n1 : mN M1 = mN M := e1.1
  have b1' : ALp M1 3 gb 4 gs := alp_fr3 b1 f1 (fun z => by
    rcases z with z | ⟨z, -⟩
    · exact absurd z (by decide)
    · omega) (fun o z => by
    rcases z with z | ⟨z, -⟩
    · omega
    · exact ne o.1 z)
  refine ⟨3, rf0_3 F1, b1'.1, S_clear (h := h) b1' (fun M2 A2 f2 e2 i2 _ => ⟨rfl, ?_⟩)⟩
  have F2 := fx F1 f2.1 e2
  have n2 : mN M2 = mN M1 := e2.1
  have A1' : ALp M2 2 mb 3 [] := alp_fr3 A1 f2 (fun z => by
    rcases z with z | ⟨z, -⟩
    · exact absurd z (by decide)
    · omega) (fun o z => by
    rcases z with z | ⟨z, -⟩
    · omega
    · exact ne (by have := o.1; omega) z.symm)
  refine H M2 ⟨F2, ⟨A1', Nat.zero_le _⟩, ⟨A2, Nat.zero_le _⟩, ⟨by rw [n2, n1]; exact c1, by rw [n2, n1]; exact c2⟩, d, fun i j hi => absurd hi (Nat.not_lt_zero _), fun i j hi => absurd hi (Nat.not_lt_zero _), fun i hi => absurd hi (Nat.not_lt_zero _), fun i hi => absurd hi (Nat.not_lt_zero _)⟩ (e1.tr e2) ((f1.more (fun c _ z => ?_)).tr f2 (fun c _ z => ?_))
  · rcases z with z | ⟨z, -⟩
    · exact Or.inl z
    · exact Or.inr (Or.inr (by omega))
  · rcases z with z | ⟨z, -⟩
    · exact Or.inr (Or.inl z)
    · exact Or.inr (Or.inr (by omega))
end
