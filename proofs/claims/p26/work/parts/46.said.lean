section
/-! what is said of one token: sort and value in the reference, kind and content in the class -/
def fg1 (b : Nat → Int32) (p j : Nat) : Nat := (b (p + j)).toInt.toNat - 48
theorem isF_lt {b : Nat → Int32} {p j : Nat} (h : isF (b (p + j)) = true) : fg1 b p j < 10 ∧ (b (p + j)).toInt = (fg1 b p j : Int) + 48 := by
  unfold isF at h
  simp only [Bool.and_eq_true, decide_eq_true_eq, Int32.lt_iff_toInt_lt] at h
  have e1 : (48 : Int32).toInt = 48 := by decide
  have e2 : (57 : Int32).toInt = 57 := by decide
  rw [e1, e2] at h
  unfold fg1
  omega
theorem num_of {x l : Nat} {c : Int32} (hc : c.toInt = (l : Int) + 48) : ((Int64.ofNat x * 10) + c.toInt64) - 48 = Int64.ofNat (x * 10 + l) := by
  rw [c64, hc, Int64.ofNat_add, Int64.ofNat_mul]
  have e : Int64.ofInt ((l : Int) + 48) = Int64.ofNat l + 48 := by rw [Int64.ofInt_add]; rfl
  rw [e]
  show Int64.ofNat x * 10 + (Int64.ofNat l + 48) - 48 = Int64.ofNat x * 10 + Int64.ofNat l
  generalize Int64.ofNat x * 10 = u
  generalize Int64.ofNat l = w
  rw [← Int64.add_assoc, Int64.add_sub_cancel]
theorem num_val {b : Nat → Int32} {p : Nat} : ∀ (k m : Nat), numF b k (p + m) (Int64.ofNat (val 10 (fg1 b p) m)) = Int64.ofNat (val 10 (fg1 b p) (m + (runF isF b k (p + m) - (p + m)))) := by
  intro k
  induction k with
  | zero => intro m; unfold numF runF; rw [Nat.sub_self]; rfl
  | succ k ih =>
    intro m
    unfold numF runF
    by_cases h : isF (b (p + m)) = true
    · rw [if_pos h, if_pos h, num_of (isF_lt h).2]
      have := ih (m + 1)
      have hr := (runF_le (p := isF) (b := b) k (p + m + 1)).1
      have e : m + 1 + (runF isF b k (p + (m + 1)) - (p + (m + 1))) = m + (runF isF b k (p + m + 1) - (p + m)) := by
        rw [← Nat.add_assoc]; omega
      rw [e] at this
      exact this
    · rw [if_neg h, if_neg h, Nat.sub_self]; rfl
theorem n10_val {b : Nat → Int32} {p : Nat} : ∀ (k m : Nat), runF isF b k (p + m) - p ≤ 6 → n10 b p k (p + m) (Int64.ofNat (val 10 (fg1 b p) m)) = Int64.ofNat (val 10 (fg1 b p) (m + (runF isF b k (p + m) - (p + m)))) := by
  intro k
  induction k with
  | zero => intro m _; unfold n10 runF; rw [Nat.sub_self]; rfl
  | succ k ih =>
    intro m h6
    unfold n10
    unfold runF at h6 ⊢
    by_cases h : isF (b (p + m)) = true
    · rw [if_pos h] at h6 ⊢
      rw [if_pos h]
      have hr := (runF_le (p := isF) (b := b) k (p + m + 1)).1
      have hlt : p + m - p < 6 := by omega
      rw [if_pos hlt, Int64.mul_comm 10, num_of (isF_lt h).2]
      have := ih (m + 1) (by rw [← Nat.add_assoc]; exact h6)
      have e : m + 1 + (runF isF b k (p + (m + 1)) - (p + (m + 1))) = m + (runF isF b k (p + m + 1) - (p + m)) := by
        rw [← Nat.add_assoc]; omega
      rw [e] at this
      exact this
    · rw [if_neg h, if_neg h, Nat.sub_self]; rfl
theorem tok_cases {b : Nat → Int32} {n p : Nat} (hB : By b) : (n ≤ p ∧ ckK b n p = 1 ∧ rS b n p = 0) ∨ (WD b n p ∧ ckK b n p = keyK (ckC b n p) 33 0 ∧ rS b n p = 1) ∨ (p < n ∧ isF (b p) = true ∧ ckK b n p = 3 ∧ rS b n p = 2 ∧ ∃ x, x < 1000000 ∧ ckC b n p = Int64.ofNat x ∧ rV b n p = Int64.ofNat x) ∨ (rS b n p = 3 ∧ ckK b n p ∈ sKs ∧ rV b n p = sv (ckK b n p)) ∨ (rS b n p = 4 ∧ ckK b n p = 0) := by
  by_cases hnp : n ≤ p
  · exact Or.inl ⟨hnp, by unfold ckK; rw [if_pos hnp], by unfold rS; rw [if_pos hnp]⟩
  right
  by_cases hl : isL (b p) = true
  · by_cases h10 : rnE isL b n p - p ≤ 10
    · refine Or.inl ⟨⟨by omega, hl, h10⟩, ?_, ?_⟩
      · unfold ckK ckC; rw [if_neg hnp, if_pos hl, if_pos h10, if_pos hl]
      · unfold rS; rw [if_neg hnp, if_pos hl, if_pos h10]
    · refine Or.inr (Or.inr (Or.inr ⟨?_, ?_⟩))
      · unfold rS; rw [if_neg hnp, if_pos hl, if_neg h10]
      · unfold ckK; rw [if_neg hnp, if_pos hl, if_neg h10]
  right
  by_cases hf : isF (b p) = true
  · by_cases h6 : rnE isF b n p - p ≤ 6
    · refine Or.inl ⟨by omega, hf, ?_, ?_, val 10 (fg1 b p) (rnE isF b n p - p), ?_, ?_, ?_⟩
      · unfold ckK; rw [if_neg hnp, if_neg hl, if_pos hf, if_pos h6]
      · unfold rS; rw [if_neg hnp, if_neg hl, if_pos hf, if_pos h6]
      · have := val_lt (B := 10) (d := fg1 b p) (rnE isF b n p - p) (fun i hi => (isF_lt (runF_all (p := isF) (b := b) (n - p) p (p + i) (by omega) (by unfold rnE at hi; omega))).1)
        have h2 : 10 ^ (rnE isF b n p - p) ≤ 10 ^ 6 := Nat.pow_le_pow_right (by decide) h6
        omega
      · unfold ckC
        rw [if_neg hl]
        have := num_val (b := b) (p := p) (n - p) 0
        have e0 : Int64.ofNat (val 10 (fg1 b p) 0) = 0 := rfl
        rw [e0] at this
        simpa [rnE] using this
      · unfold rV
        rw [if_neg hnp, if_neg hl, if_pos hf]
        have := n10_val (b := b) (p := p) (n - p) 0 (by simpa [rnE] using h6)
        have e0 : Int64.ofNat (val 10 (fg1 b p) 0) = 0 := rfl
        rw [e0] at this
        simpa [rnE] using this
    · refine Or.inr (Or.inr ⟨?_, ?_⟩)
      · unfold rS; rw [if_neg hnp, if_neg hl, if_pos hf, if_neg h6]
      · unfold ckK; rw [if_neg hnp, if_neg hl, if_pos hf, if_neg h6]
  right
  have eS : rS b n p = sgS (b p) (b (p + 1)) := by unfold rS; rw [if_neg hnp, if_neg hl, if_neg hf]
  have eK : ckK b n p = sgK (b p) (b (p + 1)) := by unfold ckK; rw [if_neg hnp, if_neg hl, if_neg hf]
  have eV : rV b n p = sgV (b p) (b (p + 1)) := by unfold rV; rw [if_neg hnp, if_neg hl, if_neg hf]
  rw [eS, eK, eV]
  by_cases hs : sgS (b p) (b (p + 1)) = 3
  · have g := sg_val (hB p).1 (hB p).2 hs
    exact Or.inl ⟨hs, g.1, g.2⟩
  · have h4 : sgS (b p) (b (p + 1)) = 4 := by
      unfold sgS at hs ⊢
      split
      · rename_i q; rw [if_pos q] at hs; exact absurd rfl hs
      · rfl
    exact Or.inr ⟨h4, (sg_rel (d := b (p + 1)) (hB p).1 (hB p).2).2.1.mpr h4⟩
theorem keyK_val {c : Int64} : keyK c 33 0 = 2 ∧ (∀ j, j < 33 → keysF j ≠ c) ∨ ∃ j, j < 33 ∧ keysF j = c ∧ keyK c 33 0 = 30 + Int32.ofNat j := by
  by_cases h : ∃ j, j < 33 ∧ keysF j = c
  · obtain ⟨j, hj, e⟩ := h
    exact Or.inr ⟨j, hj, e, keyK_hit hj e 33 0 rfl (Nat.zero_le _)⟩
  · have h : ∀ j, j < 33 → keysF j ≠ c := fun j hj e => h ⟨j, hj, e⟩
    exact Or.inl ⟨keyK_miss h 33 0 rfl, h⟩
theorem kj_ne : ∀ j : Fin 33, (30 + Int32.ofNat j) ∉ sKs ∧ 30 + Int32.ofNat j ≠ 0 ∧ 30 + Int32.ofNat j ≠ 1 ∧ 30 + Int32.ofNat j ≠ 2 ∧ 30 + Int32.ofNat j ≠ 3 := by decide +kernel
theorem kj_inj : ∀ j j' : Fin 33, 30 + Int32.ofNat j = 30 + Int32.ofNat j' → j = j' := by decide +kernel
theorem sK_ne : ∀ k ∈ sKs, k ≠ 0 ∧ k ≠ 1 ∧ k ≠ 2 ∧ k ≠ 3 := by decide +kernel
theorem said_sign {b : Nat → Int32} {n p : Nat} {K : Int32} (hB : By b) (hK : K ∈ sKs) : (rS b n p = 3 ∧ rV b n p = sv K) ↔ ckK b n p = K := by
  have hn := sK_ne K hK
  rcases tok_cases (b := b) (n := n) (p := p) hB with ⟨-, k, s⟩ | ⟨w, k, s⟩ | ⟨-, -, k, s, -⟩ | ⟨s, k, v⟩ | ⟨s, k⟩
  · rw [s, k]; exact ⟨fun z => absurd z.1 (by decide), fun z => absurd z.symm hn.2.1⟩
  · rw [s, k]
    refine ⟨fun z => absurd z.1 (by decide), fun z => ?_⟩
    rcases keyK_val (c := ckC b n p) with ⟨e, -⟩ | ⟨j, hj, -, e⟩
    · rw [e] at z; exact absurd z.symm hn.2.2.1
    · rw [e] at z; exact absurd (z ▸ hK) (kj_ne ⟨j, hj⟩).1
  · rw [s, k]; exact ⟨fun z => absurd z.1 (by decide), fun z => absurd z.symm hn.2.2.2⟩
  · rw [s, v]; exact ⟨fun z => sv_inj _ k _ hK z.2, fun z => ⟨rfl, by rw [z]⟩⟩
  · rw [s, k]; exact ⟨fun z => absurd z.1 (by decide), fun z => absurd z.symm hn.1⟩
theorem said_key {b : Nat → Int32} {n p j : Nat} (hB : By b) (hj : j < 33) : (rS b n p = 1 ∧ rV b n p = key27.getD j 0) ↔ ckK b n p = 30 + Int32.ofNat j := by
  have hn := kj_ne ⟨j, hj⟩
  have hn : (30 + Int32.ofNat j) ∉ sKs ∧ 30 + Int32.ofNat j ≠ 0 ∧ 30 + Int32.ofNat j ≠ 1 ∧ 30 + Int32.ofNat j ≠ 2 ∧ 30 + Int32.ofNat j ≠ 3 := hn
  rcases tok_cases (b := b) (n := n) (p := p) hB with ⟨-, k, s⟩ | ⟨w, k, s⟩ | ⟨-, -, k, s, -⟩ | ⟨s, k, v⟩ | ⟨s, k⟩
  · rw [s, k]; exact ⟨fun z => absurd z.1 (by decide), fun z => absurd z.symm hn.2.2.1⟩
  · rw [s, k, ← WD_key w hj]
    rcases keyK_val (c := ckC b n p) with ⟨e, h⟩ | ⟨i, hi, hc, e⟩
    · rw [e]; exact ⟨fun z => absurd z.2 (h j hj), fun z => absurd z.symm hn.2.2.2.1⟩
    · rw [e]
      constructor
      · intro z
        have := keyK_hit hj z.2 33 0 rfl (Nat.zero_le _)
        rw [← e]; exact this
      · intro z
        have := kj_inj ⟨i, hi⟩ ⟨j, hj⟩ z
        have : i = j := by simpa using this
        subst this
        exact ⟨rfl, hc⟩
  · rw [s, k]; exact ⟨fun z => absurd z.1 (by decide), fun z => absurd z.symm hn.2.2.2.2⟩
  · rw [s]; exact ⟨fun z => absurd z.1 (by decide), fun z => absurd (z ▸ k) hn.1⟩
  · rw [s, k]; exact ⟨fun z => absurd z.1 (by decide), fun z => absurd z.symm hn.2.1⟩
theorem said_num {b : Nat → Int32} {n p : Nat} (hB : By b) : rS b n p = 2 ↔ ckK b n p = 3 := by
  rcases tok_cases (b := b) (n := n) (p := p) hB with ⟨-, k, s⟩ | ⟨w, k, s⟩ | ⟨-, -, k, s, -⟩ | ⟨s, k, v⟩ | ⟨s, k⟩
  · rw [s, k]; decide
  · rw [s, k]
    refine ⟨fun z => absurd z (by decide), fun z => ?_⟩
    rcases keyK_val (c := ckC b n p) with ⟨e, -⟩ | ⟨j, hj, -, e⟩
    · rw [e] at z; exact absurd z (by decide)
    · rw [e] at z; exact absurd z (kj_ne ⟨j, hj⟩).2.2.2.2
  · rw [s, k]; decide
  · rw [s]; exact ⟨fun z => absurd z (by decide), fun z => absurd z (sK_ne _ k).2.2.2⟩
  · rw [s, k]; decide
theorem said_name {b : Nat → Int32} {n p : Nat} (hB : By b) : (rS b n p = 1 ∧ ∀ j, j < 33 → rV b n p ≠ key27.getD j 0) ↔ ckK b n p = 2 := by
  rcases tok_cases (b := b) (n := n) (p := p) hB with ⟨-, k, s⟩ | ⟨w, k, s⟩ | ⟨-, -, k, s, -⟩ | ⟨s, k, v⟩ | ⟨s, k⟩
  · rw [s, k]; exact ⟨fun z => absurd z.1 (by decide), fun z => absurd z (by decide)⟩
  · rw [s, k]
    rcases keyK_val (c := ckC b n p) with ⟨e, h⟩ | ⟨j, hj, hc, e⟩
    · rw [e]; exact ⟨fun _ => rfl, fun _ => ⟨rfl, fun j hj z => h j hj ((WD_key w hj).mpr z)⟩⟩
    · rw [e]; exact ⟨fun z => absurd ((WD_key w hj).mp hc) (z.2 j hj), fun z => absurd z (kj_ne ⟨j, hj⟩).2.2.2.1⟩
  · rw [s, k]; exact ⟨fun z => absurd z.1 (by decide), fun z => absurd z (by decide)⟩
  · rw [s]; exact ⟨fun z => absurd z.1 (by decide), fun z => absurd z (sK_ne _ k).2.2.1⟩
  · rw [s, k]; exact ⟨fun z => absurd z.1 (by decide), fun z => absurd z (by decide)⟩
theorem name_WD {b : Nat → Int32} {n p : Nat} (hB : By b) (h : ckK b n p = 2) : WD b n p := by
  rcases tok_cases (b := b) (n := n) (p := p) hB with ⟨-, k, s⟩ | ⟨w, k, s⟩ | ⟨-, -, k, s, -⟩ | ⟨s, k, v⟩ | ⟨s, k⟩
  · rw [k] at h; exact absurd h (by decide)
  · exact w
  · rw [k] at h; exact absurd h (by decide)
  · exact absurd h (sK_ne _ k).2.2.1
  · rw [k] at h; exact absurd h (by decide)
theorem num_val2 {b : Nat → Int32} {n p : Nat} (hB : By b) (h : ckK b n p = 3) : p < n ∧ isF (b p) = true ∧ ∃ x, x < 1000000 ∧ ckC b n p = Int64.ofNat x ∧ rV b n p = Int64.ofNat x := by
  rcases tok_cases (b := b) (n := n) (p := p) hB with ⟨-, k, s⟩ | ⟨w, k, s⟩ | ⟨h1, h2, k, s, h3⟩ | ⟨s, k, v⟩ | ⟨s, k⟩
  · rw [k] at h; exact absurd h (by decide)
  · rw [k] at h
    rcases keyK_val (c := ckC b n p) with ⟨e, -⟩ | ⟨j, hj, -, e⟩
    · rw [e] at h; exact absurd h (by decide)
    · rw [e] at h; exact absurd h (kj_ne ⟨j, hj⟩).2.2.2.2
  · exact ⟨h1, h2, h3⟩
  · exact absurd h (sK_ne _ k).2.2.2
  · rw [k] at h; exact absurd h (by decide)
end
section
/-! Arrays.copyOf of ints; Sums.add -/
set_option maxHeartbeats 1000000 in
theorem S_copyI {h a k : Nat} {M : Mem} {Q : Option Value → Mem → Prop} (ha : ok M a 21) (hne : mL M a ≠ k) (hlt : mL M a ≤ k) (hk : k ≤ 100000000) (H : Q (some (.ref (mN M))) (wCp (nwA M 21 k) a (mN M) 0 0 (mL M a))) : E (h + 2) mdJ7_copyOf_59c91 [.ref a, .int (Int32.ofNat k)] M Q := by
  have hM : ok (nwA M 21 k) a 21 := ok_nwA ha
  have hL : mL (nwA M 21 k) a = mL M a := va_up_ne _ _ (Nat.ne_of_lt ha.1)
  have hL2 : mL (nwA M 21 k) (mN M) = k := va_up_self _ _ _
  refine E.of (by decide) (Nat.le_of_ble_eq_true rfl) (fun _ _ _ => trivial) ?_
  show T _ _ 0 [(0, .ref a), (1, .int (Int32.ofNat k))] [] M _
  refine xt_iload_n (j := 1) dJ7_copyOf_59c91_0 rfl rfl ?_
  refine xt_aload_n (j := 0) dJ7_copyOf_59c91_1 rfl rfl ?_
  refine xt_alen dJ7_copyOf_59c91_2 ha.1 (Or.inr (Or.inl ha.2)) ?_
  refine xt_icmp_ne (tgt := 14) dJ7_copyOf_59c91_3 (by decide) (fun _ => ?_) (fun hc => ?_)
  · refine xt_iload_n (j := 1) dJ7_copyOf_59c91_14 rfl rfl ?_
    refine xt_newI (N := k) dJ7_copyOf_59c91_15 ac_I (by rw [show (0 : Int32) = Int32.ofNat 0 from rfl, ltn32 (by omega) (by decide)]; omega) (lt32 (by omega)) hk ?_
    refine xt_astore_n (i := 2) (lv' := [(2, .ref (mN M)), (0, .ref a), (1, .int (Int32.ofNat k))]) dJ7_copyOf_59c91_17 rfl (by show (_ : Nat) < 3; decide) rfl ?_
    refine xt_aload_n (j := 1) dJ7_copyOf_59c91_18 rfl rfl ?_
    refine xt_iconst (v := 0) dJ7_copyOf_59c91_19 (by decide) ?_
    refine xt_aload_n (j := 0) dJ7_copyOf_59c91_20 rfl rfl ?_
    refine xt_iconst (v := 0) dJ7_copyOf_59c91_21 (by decide) ?_
    refine xt_aload_n (j := 1) dJ7_copyOf_59c91_22 rfl rfl ?_
    refine xt_alen dJ7_copyOf_59c91_23 hM.1 (Or.inr (Or.inl hM.2)) ?_
    refine xt_iload_n (j := 2) dJ7_copyOf_59c91_24 rfl rfl ?_
    refine xt_mmin dJ7_copyOf_59c91_25 (mmJ7_304 rfl) (by omega) (by simp [Value.category]) ?_
    rw [hL, if_neg (by rw [ltn32 (by omega) (by omega)]; omega)]
    have e0 : (0 : Int32).toNatClampNeg = 0 := by decide
    have e1 : (Int32.ofNat (mL M a)).toNatClampNeg = mL M a := lt32 (by omega)
    refine xt_cpyI dJ7_copyOf_59c91_28 (cpJ7_150 rfl) hM ok_newA (by decide) (by decide) (by rw [show (0 : Int32) = Int32.ofNat 0 from rfl, ltn32 (by omega) (by decide)]; omega) (by rw [e0, e1, hL]; omega) (by rw [e0, e1, hL2]; omega) (by omega) (by decide) ?_
    rw [e0, e1]
    refine xt_aload_n (j := 0) dJ7_copyOf_59c91_31 rfl rfl ?_
    exact xt_areturn (rt := .array .int) dJ7_copyOf_59c91_32 rfl (Or.inr ⟨_, rfl⟩) H
  · have hc : Int32.ofNat k = Int32.ofNat (mL M a) := hc
    exact absurd (inj32 (by omega) (by omega) hc).symm hne
theorem fr_cpw {M : Mem} {b a sc k m : Nat} : fr (fun c => c = sc ∨ c = a) M (wR (wCp M b a 0 0 m) sc k (some a)) := ⟨⟨Nat.le_refl _, Nat.le_refl _, fun _ _ => ⟨rfl, rfl⟩⟩, fun c _ hn => ⟨rfl, rfl, up2_row (fun z => hn (Or.inl z)), va_up_ne _ _ (fun z => hn (Or.inr z)), rfl, rfl⟩⟩
/-- the code so far: cell sc of Sums, cell cc of its row -/
def SumP (M : Mem) (sc cc : Nat) (l : List Int32) : Prop := ok M sc 8 ∧ mR M sc 0 = some cc ∧ ok M cc 21 ∧ mI M sc 1 = Int32.ofNat l.length ∧ l.length ≤ mL M cc ∧ 16 ≤ mL M cc ∧ mL M cc ≤ 16 + 2 * l.length ∧ ∀ j, j < l.length → mAI M cc j = l.getD j 0
/-- what Sums.add leaves of the rest -/
def SumF (M M' : Mem) (sc cc cc' : Nat) : Prop := fr (fun c => c = sc ∨ c = cc) M M' ∧ (∀ f, f ≠ 1 → mI M' sc f = mI M sc f) ∧ (∀ f, f ≠ 0 → mR M' sc f = mR M sc f) ∧ mJ M' sc = mJ M sc ∧ mN M' ≤ mN M + 1 ∧ mS M' + 2 * mL M cc = mS M + 2 * mL M' cc' ∧ (cc' = cc ∨ cc' = mN M) ∧ mL M' cc' ≤ 2 * mL M cc
theorem getD_app {l : List Int32} {x : Int32} {j : Nat} (h : j < l.length + 1) : (l ++ [x]).getD j 0 = if j = l.length then x else l.getD j 0 := by
  rw [List.getD_eq_getElem?_getD, List.getD_eq_getElem?_getD]
  by_cases hj : j = l.length
  · rw [if_pos hj, hj, List.getElem?_append_right (Nat.le_refl _), Nat.sub_self]; rfl
  · rw [if_neg hj, List.getElem?_append_left (by omega)]
theorem S_sumAdd {h sc cc : Nat} {l : List Int32} {x : Int32} {M : Mem} {Q : Option Value → Mem → Prop} (hP : SumP M sc cc l) (hsc : sc ≠ cc) (hlim : l.length < 30000) (H : ∀ (M' : Mem) (cc' : Nat), SumP M' sc cc' (l ++ [x]) → SumF M M' sc cc cc' → Q none M') : E (h + 3) mdX6_add [.ref sc, .int x] M Q := by
  obtain ⟨o1, r1, o2, i1, h1, h2, h3, h4⟩ := hP
  refine KX6_add ?_
  unfold DX6_add_0
  refine ⟨o1, cc, r1, o2, fun hc => ?_, fun hc => ?_⟩
  · rw [i1] at hc
    have hlt : l.length < mL M cc := by
      have : l.length ≠ mL M cc := fun z => hc (by rw [z])
      omega
    unfold DX6_add_29
    refine ⟨o1, cc, r1, o2, by rw [i1]; exact vp_of hlt (by omega), fun M4 e4 M5 e5 => ?_⟩
    rw [i1, lt32 (by omega)] at e4
    have i4 : mI M4 sc 1 = Int32.ofNat l.length := by rw [e4, mI_wAI]; exact i1
    rw [i4, succ32] at e5
    refine H M5 cc ⟨?_, ?_, ?_, ?_, ?_, ?_, ?_, ?_⟩ ⟨?_, ?_, ?_, ?_, ?_, ?_, Or.inl rfl, ?_⟩
    · rw [e5, e4]; exact o1
    · rw [e5, e4]; exact r1
    · rw [e5, e4]; exact o2
    · rw [e5, mI_own, List.length_append]; rfl
    · rw [e5, e4, List.length_append]; exact hlt
    · rw [e5, e4]; exact h2
    · rw [e5, e4, List.length_append]; show mL M cc ≤ 16 + 2 * (l.length + 1); omega
    · intro j hj
      rw [List.length_append] at hj
      rw [getD_app hj, e5, mAI_wI, e4, mAI_wAI]
      by_cases hjl : j = l.length
      · rw [if_pos ⟨rfl, hjl⟩, if_pos hjl]
      · rw [if_neg (fun z => hjl z.2), if_neg hjl]
        exact h4 j (by have : j < l.length + 1 := hj; omega)
    · rw [e5, e4]; exact (fr_wAI (S := fun c => c = sc ∨ c = cc) (Or.inr rfl)).tr (fr_wI (S := fun c => c = sc ∨ c = cc) (Or.inl rfl)) (fun _ _ z => z)
    · intro f hf; rw [e5, mI_wI, if_neg (fun z => hf z.2), e4, mI_wAI]
    · intro f _; rw [e5, mR_wI, e4, mR_wAI]
    · rw [e5, mJ_wI, e4, mJ_wAI]
    · rw [e5, mN_wI, e4, mN_wAI]; omega
    · rw [e5, mS_wI, e4, mS_wAI, mL_wI, mL_wAI]
    · rw [e5, e4, mL_wI, mL_wAI]; omega
  · rw [i1] at hc
    have heq : l.length = mL M cc := inj32 (by omega) (by omega) hc
    refine ⟨cc, r1, ?_⟩
    have e2 : mI M sc 1 * 2 = Int32.ofNat (mL M cc * 2) := by rw [i1, heq, Int32.ofNat_mul]; rfl
    rw [e2]
    refine S_copyI o2 (by omega) (by omega) (by omega) (fun _ => ⟨_, rfl, fun M7 e7 => ?_⟩)
    have nsc : sc ≠ mN M := Nat.ne_of_lt o1.1
    have ncc : cc ≠ mN M := Nat.ne_of_lt o2.1
    have o7 : ok M7 sc 8 := by rw [e7]; exact ok_nwA (n := mL M cc * 2) o1
    have q7 : ok M7 (mN M) 21 := by rw [e7]; exact ok_newA (n := mL M cc * 2)
    have r7 : mR M7 sc 0 = some (mN M) := by rw [e7, mR_wR, if_pos ⟨rfl, rfl⟩]
    have l7 : mL M7 (mN M) = mL M cc * 2 := by rw [e7]; exact va_up_self _ _ _
    have i7 : mI M7 = mI M := by rw [e7]; rfl
    unfold DX6_add_29
    refine ⟨o7, mN M, r7, q7, by rw [i7, i1, l7]; exact vp_of (by omega) (by omega), fun M4 e4 M5 e5 => ?_⟩
    rw [i7, i1, lt32 (by omega)] at e4
    have i4 : mI M4 sc 1 = Int32.ofNat l.length := by rw [e4, mI_wAI, i7]; exact i1
    rw [i4, succ32] at e5
    have f7 : fr (fun c => c = sc ∨ c = cc) M M7 := by
      rw [e7]
      refine (fr_nwA).tr (S1 := fun c => c = sc ∨ c = mN M) fr_cpw (fun a ha z => ?_)
      rcases z with z | z
      · exact Or.inl z
      · omega
    have f5 : fr (fun c => c = sc ∨ c = cc) M M5 := by
      refine f7.tr (S1 := fun c => c = sc ∨ c = mN M) ?_ (fun a ha z => ?_)
      · rw [e5, e4]; exact (fr_wAI (S := fun c => c = sc ∨ c = mN M) (Or.inr rfl)).tr (fr_wI (S := fun c => c = sc ∨ c = mN M) (Or.inl rfl)) (fun _ _ z => z)
      · rcases z with z | z
        · exact Or.inl z
        · omega
    have l5 : mL M5 (mN M) = mL M cc * 2 := by rw [e5, e4]; exact l7
    refine H M5 (mN M) ⟨?_, ?_, ?_, ?_, ?_, ?_, ?_, ?_⟩ ⟨f5, ?_, ?_, ?_, ?_, ?_, Or.inr rfl, ?_⟩
    · rw [e5, e4]; exact o7
    · rw [e5, e4]; exact r7
    · rw [e5, e4]; exact q7
    · rw [e5, mI_own, List.length_append]; rfl
    · rw [l5, List.length_append]; show l.length + 1 ≤ _; omega
    · rw [l5]; omega
    · rw [l5, List.length_append]; show _ ≤ 16 + 2 * (l.length + 1); omega
    · intro j hj
      rw [List.length_append] at hj
      rw [getD_app hj, e5, mAI_wI, e4, mAI_wAI]
      by_cases hjl : j = l.length
      · rw [if_pos ⟨rfl, hjl⟩, if_pos hjl]
      · rw [if_neg (fun z => hjl z.2), if_neg hjl]
        have hj2 : j < l.length := by have : j < l.length + 1 := hj; omega
        rw [← h4 j hj2, e7]
        show va_up (mAI (nwA M 21 (mL M cc * 2))) (mN M) (va_cpy (mAI (nwA M 21 (mL M cc * 2)) cc) _ 0 0 (mL M cc)) (mN M) j = mAI M cc j
        rw [va_up_self]
        unfold va_cpy
        rw [if_pos ⟨Nat.zero_le _, by omega⟩, Nat.zero_add, Nat.sub_zero]
        show va_up (mAI M) (mN M) _ cc j = _
        rw [va_up_ne _ _ ncc]
    · intro f hf; rw [e5, mI_wI, if_neg (fun z => hf z.2), e4, mI_wAI, i7]
    · intro f hf; rw [e5, mR_wI, e4, mR_wAI, e7, mR_wR, if_neg (fun z => hf z.2)]; rfl
    · rw [e5, mJ_wI, e4, mJ_wAI, e7]; rfl
    · rw [e5, mN_wI, e4, mN_wAI, e7]; exact Nat.le_refl _
    · rw [l5, e5, mS_wI, e4, mS_wAI, e7]
      show mS M + mL M cc * 2 + 2 * mL M cc = _
      omega
    · rw [l5]; omega
end
section
/-! the tokens as the reader stands: at the i-th with o opened (TI), or behind a fault (TF) -/
def TI (b : Nat → Int32) (n s : Nat) (M : Mem) (i o : Nat) : Prop := Fix M ∧ (n ≤ 800 ∧ s ≤ n ∧ i ≤ s) ∧ (∀ j, j ≤ s → TkR M b n j) ∧ mI M 15 7 = Int32.ofNat (i + 1) ∧ mI M 15 8 = Int32.ofNat o ∧ mI M 15 9 = tK b n i ∧ mI M 15 10 = Int32.ofNat (tP b n i) ∧ (tP b n i < n → (isL (b (tP b n i)) = true ∨ isF (b (tP b n i)) = true) → mJ M 15 11 = tC b n i) ∧ mI M 15 12 = 0 ∧ tK b n i ≠ 0
def TF (M : Mem) (f : Int32) (p : Nat) : Prop := Fix M ∧ ¬ mI M 15 7 < 0 ∧ mI M 15 12 = f ∧ f ≠ 0 ∧ mI M 15 13 = Int32.ofNat p ∧ mI M 15 9 = 0
/-- all but the cell of Tokens stays -/
def TFr (M M' : Mem) : Prop := mN M' = mN M ∧ mS M' = mS M ∧ mK M' = mK M ∧ mL M' = mL M ∧ mR M' = mR M ∧ mAI M' = mAI M ∧ mAJ M' = mAJ M ∧ mAR M' = mAR M ∧ (∀ a, a ≠ 15 → mI M' a = mI M a ∧ mJ M' a = mJ M a)
theorem TFr.rf {M : Mem} : TFr M M := ⟨rfl, rfl, rfl, rfl, rfl, rfl, rfl, rfl, fun _ _ => ⟨rfl, rfl⟩⟩
theorem TFr.tr {M M1 M2 : Mem} (h : TFr M M1) (k : TFr M1 M2) : TFr M M2 := by
  obtain ⟨a1, a2, a3, a4, a5, a6, a7, a8, a9⟩ := h
  obtain ⟨b1, b2, b3, b4, b5, b6, b7, b8, b9⟩ := k
  exact ⟨b1.trans a1, b2.trans a2, b3.trans a3, b4.trans a4, b5.trans a5, b6.trans a6, b7.trans a7, b8.trans a8, fun a q => ⟨(b9 a q).1.trans (a9 a q).1, (b9 a q).2.trans (a9 a q).2⟩⟩
theorem TFr.i {M : Mem} {f : Nat} {v : Int32} : TFr M (wI M 15 f v) := ⟨rfl, rfl, rfl, rfl, rfl, rfl, rfl, rfl, fun a q => ⟨up2_row q, rfl⟩⟩
theorem TFr.j {M : Mem} {f : Nat} {v : Int64} : TFr M (wJ M 15 f v) := ⟨rfl, rfl, rfl, rfl, rfl, rfl, rfl, rfl, fun a q => ⟨rfl, up2_row q⟩⟩
theorem TFr.e {M M' : Mem} (h : TFr M M') : mE M M' := ⟨Nat.le_of_eq h.1.symm, Nat.le_of_eq h.2.1.symm, fun a _ => ⟨by rw [h.2.2.1], by rw [h.2.2.2.1]⟩⟩
theorem TFr.ok {M M' : Mem} {a c : Nat} (h : TFr M M') (k : ok M a c) : ok M' a c := ok_E k h.e
theorem TFr.fr {M M' : Mem} (h : TFr M M') : fr (fun c => c = 15) M M' := ⟨h.e, fun a _ q => ⟨(h.2.2.2.2.2.2.2.2 a q).1, (h.2.2.2.2.2.2.2.2 a q).2, by rw [h.2.2.2.2.1], by rw [h.2.2.2.2.2.1], by rw [h.2.2.2.2.2.2.1], by rw [h.2.2.2.2.2.2.2.1]⟩⟩
theorem TFr.adv {M : Mem} : TFr M (advF M) := by
  unfold advF
  split
  · split
    · dsimp only
      split
      · exact ((((TFr.i.tr TFr.i).tr TFr.j).tr TFr.i).tr TFr.i).tr TFr.i
      · exact ((TFr.i.tr TFr.i).tr TFr.j).tr TFr.i
    · exact TFr.rf
  · exact TFr.rf
theorem TFr.fail {M : Mem} {c : Int32} : TFr M (failF M c) := by
  unfold failF
  split
  · exact (TFr.i.tr TFr.i).tr TFr.i
  · exact TFr.i
theorem TFr.fix {M M' : Mem} (h : TFr M M') (F : Fix M) : Fix M' := F.of_fr (S := fun _ => True) h.e (fun e _ => by rw [h.2.2.2.2.1]) (by rw [h.2.2.2.2.2.2.1])
theorem TFr.tk {M M' : Mem} {b : Nat → Int32} {n j : Nat} (h : TFr M M') (k : TkR M b n j) : TkR M' b n j := by
  unfold TkR
  rw [h.2.2.2.2.2.1, h.2.2.2.2.2.2.1]
  exact k
section
variable {b : Nat → Int32} {n s : Nat} {M : Mem} {i o : Nat}
theorem TI.c0 (h : TI b n s M i o) : ¬ mI M 15 7 < 0 := by
  obtain ⟨-, ⟨h1, h2, h3⟩, -, h4, -⟩ := h
  rw [h4, show (0 : Int32) = Int32.ofNat 0 from rfl, ltn32 (by omega) (by decide)]
  omega
theorem TI.adv (h : TI b n s M i o) (hs : i < s) : (tK b n (i + 1) ≠ 0 → TI b n s (advF M) (i + 1) o) ∧ (tK b n (i + 1) = 0 → TF (advF M) 1 (tP b n (i + 1))) := by
  obtain ⟨F, ⟨h1, h2, h3⟩, hR, h4, h5, h6, h7, h8, h9, h10⟩ := h
  obtain ⟨r1, r2, r3⟩ := hR (i + 1) (by omega)
  constructor
  · intro hk
    have e := adv_ok (j := i + 1) h9 h4 (by omega) (by rw [r1]; exact hk)
    have hT : TFr M (advF M) := TFr.adv
    refine ⟨hT.fix F, ⟨h1, h2, by omega⟩, fun j hj => hT.tk (hR j hj), ?_, ?_, ?_, ?_, ?_, ?_, hk⟩
    · rw [e]; simp [mNwI, mSwI, mKwI, mIwI, mJwI, mRwI, mLwI, mAIwI, mAJwI, mARwI, mNwJ, mSwJ, mKwJ, mIwJ, mJwJ, mRwJ, mLwJ, mAIwJ, mAJwJ, mARwJ, mNwR, mSwR, mKwR, mIwR, mJwR, mRwR, mLwR, mAIwR, mAJwR, mARwR, mNwAI, mSwAI, mKwAI, mIwAI, mJwAI, mRwAI, mLwAI, mAIwAI, mAJwAI, mARwAI, mNwAJ, mSwAJ, mKwAJ, mIwAJ, mJwAJ, mRwAJ, mLwAJ, mAIwAJ, mAJwAJ, mARwAJ, mNwAR, mSwAR, mKwAR, mIwAR, mJwAR, mRwAR, mLwAR, mAIwAR, mAJwAR, mARwAR, okkwI, okkwJ, okkwR, okkwAI, okkwAJ, okkwAR]
    · rw [e]; simp [h5, mNwI, mSwI, mKwI, mIwI, mJwI, mRwI, mLwI, mAIwI, mAJwI, mARwI, mNwJ, mSwJ, mKwJ, mIwJ, mJwJ, mRwJ, mLwJ, mAIwJ, mAJwJ, mARwJ, mNwR, mSwR, mKwR, mIwR, mJwR, mRwR, mLwR, mAIwR, mAJwR, mARwR, mNwAI, mSwAI, mKwAI, mIwAI, mJwAI, mRwAI, mLwAI, mAIwAI, mAJwAI, mARwAI, mNwAJ, mSwAJ, mKwAJ, mIwAJ, mJwAJ, mRwAJ, mLwAJ, mAIwAJ, mAJwAJ, mARwAJ, mNwAR, mSwAR, mKwAR, mIwAR, mJwAR, mRwAR, mLwAR, mAIwAR, mAJwAR, mARwAR, okkwI, okkwJ, okkwR, okkwAI, okkwAJ, okkwAR]
    · rw [e]; simp [r1, mNwI, mSwI, mKwI, mIwI, mJwI, mRwI, mLwI, mAIwI, mAJwI, mARwI, mNwJ, mSwJ, mKwJ, mIwJ, mJwJ, mRwJ, mLwJ, mAIwJ, mAJwJ, mARwJ, mNwR, mSwR, mKwR, mIwR, mJwR, mRwR, mLwR, mAIwR, mAJwR, mARwR, mNwAI, mSwAI, mKwAI, mIwAI, mJwAI, mRwAI, mLwAI, mAIwAI, mAJwAI, mARwAI, mNwAJ, mSwAJ, mKwAJ, mIwAJ, mJwAJ, mRwAJ, mLwAJ, mAIwAJ, mAJwAJ, mARwAJ, mNwAR, mSwAR, mKwAR, mIwAR, mJwAR, mRwAR, mLwAR, mAIwAR, mAJwAR, mARwAR, okkwI, okkwJ, okkwR, okkwAI, okkwAJ, okkwAR]
    · rw [e]; simp [r2, mNwI, mSwI, mKwI, mIwI, mJwI, mRwI, mLwI, mAIwI, mAJwI, mARwI, mNwJ, mSwJ, mKwJ, mIwJ, mJwJ, mRwJ, mLwJ, mAIwJ, mAJwJ, mARwJ, mNwR, mSwR, mKwR, mIwR, mJwR, mRwR, mLwR, mAIwR, mAJwR, mARwR, mNwAI, mSwAI, mKwAI, mIwAI, mJwAI, mRwAI, mLwAI, mAIwAI, mAJwAI, mARwAI, mNwAJ, mSwAJ, mKwAJ, mIwAJ, mJwAJ, mRwAJ, mLwAJ, mAIwAJ, mAJwAJ, mARwAJ, mNwAR, mSwAR, mKwAR, mIwAR, mJwAR, mRwAR, mLwAR, mAIwAR, mAJwAR, mARwAR, okkwI, okkwJ, okkwR, okkwAI, okkwAJ, okkwAR]
    · intro q1 q2; rw [e]; simp [r3 q1 q2, mNwI, mSwI, mKwI, mIwI, mJwI, mRwI, mLwI, mAIwI, mAJwI, mARwI, mNwJ, mSwJ, mKwJ, mIwJ, mJwJ, mRwJ, mLwJ, mAIwJ, mAJwJ, mARwJ, mNwR, mSwR, mKwR, mIwR, mJwR, mRwR, mLwR, mAIwR, mAJwR, mARwR, mNwAI, mSwAI, mKwAI, mIwAI, mJwAI, mRwAI, mLwAI, mAIwAI, mAJwAI, mARwAI, mNwAJ, mSwAJ, mKwAJ, mIwAJ, mJwAJ, mRwAJ, mLwAJ, mAIwAJ, mAJwAJ, mARwAJ, mNwAR, mSwAR, mKwAR, mIwAR, mJwAR, mRwAR, mLwAR, mAIwAR, mAJwAR, mARwAR, okkwI, okkwJ, okkwR, okkwAI, okkwAJ, okkwAR]
    · rw [e]; simp [h9, mNwI, mSwI, mKwI, mIwI, mJwI, mRwI, mLwI, mAIwI, mAJwI, mARwI, mNwJ, mSwJ, mKwJ, mIwJ, mJwJ, mRwJ, mLwJ, mAIwJ, mAJwJ, mARwJ, mNwR, mSwR, mKwR, mIwR, mJwR, mRwR, mLwR, mAIwR, mAJwR, mARwR, mNwAI, mSwAI, mKwAI, mIwAI, mJwAI, mRwAI, mLwAI, mAIwAI, mAJwAI, mARwAI, mNwAJ, mSwAJ, mKwAJ, mIwAJ, mJwAJ, mRwAJ, mLwAJ, mAIwAJ, mAJwAJ, mARwAJ, mNwAR, mSwAR, mKwAR, mIwAR, mJwAR, mRwAR, mLwAR, mAIwAR, mAJwAR, mARwAR, okkwI, okkwJ, okkwR, okkwAI, okkwAJ, okkwAR]
  · intro hk
    have e := adv_bad (j := i + 1) h9 h4 (by omega) (by rw [r1]; exact hk)
    have hT : TFr M (advF M) := TFr.adv
    have e7 : mI (advF M) 15 7 = Int32.ofNat (i + 1 + 1) := by rw [e]; simp [mNwI, mSwI, mKwI, mIwI, mJwI, mRwI, mLwI, mAIwI, mAJwI, mARwI, mNwJ, mSwJ, mKwJ, mIwJ, mJwJ, mRwJ, mLwJ, mAIwJ, mAJwJ, mARwJ, mNwR, mSwR, mKwR, mIwR, mJwR, mRwR, mLwR, mAIwR, mAJwR, mARwR, mNwAI, mSwAI, mKwAI, mIwAI, mJwAI, mRwAI, mLwAI, mAIwAI, mAJwAI, mARwAI, mNwAJ, mSwAJ, mKwAJ, mIwAJ, mJwAJ, mRwAJ, mLwAJ, mAIwAJ, mAJwAJ, mARwAJ, mNwAR, mSwAR, mKwAR, mIwAR, mJwAR, mRwAR, mLwAR, mAIwAR, mAJwAR, mARwAR, okkwI, okkwJ, okkwR, okkwAI, okkwAJ, okkwAR]
    refine ⟨hT.fix F, ?_, ?_, by decide, ?_, ?_⟩
    · rw [e7, show (0 : Int32) = Int32.ofNat 0 from rfl, ltn32 (by omega) (by decide)]; omega
    · rw [e]; simp [mNwI, mSwI, mKwI, mIwI, mJwI, mRwI, mLwI, mAIwI, mAJwI, mARwI, mNwJ, mSwJ, mKwJ, mIwJ, mJwJ, mRwJ, mLwJ, mAIwJ, mAJwJ, mARwJ, mNwR, mSwR, mKwR, mIwR, mJwR, mRwR, mLwR, mAIwR, mAJwR, mARwR, mNwAI, mSwAI, mKwAI, mIwAI, mJwAI, mRwAI, mLwAI, mAIwAI, mAJwAI, mARwAI, mNwAJ, mSwAJ, mKwAJ, mIwAJ, mJwAJ, mRwAJ, mLwAJ, mAIwAJ, mAJwAJ, mARwAJ, mNwAR, mSwAR, mKwAR, mIwAR, mJwAR, mRwAR, mLwAR, mAIwAR, mAJwAR, mARwAR, okkwI, okkwJ, okkwR, okkwAI, okkwAJ, okkwAR]
    · rw [e]; simp [r2, mNwI, mSwI, mKwI, mIwI, mJwI, mRwI, mLwI, mAIwI, mAJwI, mARwI, mNwJ, mSwJ, mKwJ, mIwJ, mJwJ, mRwJ, mLwJ, mAIwJ, mAJwJ, mARwJ, mNwR, mSwR, mKwR, mIwR, mJwR, mRwR, mLwR, mAIwR, mAJwR, mARwR, mNwAI, mSwAI, mKwAI, mIwAI, mJwAI, mRwAI, mLwAI, mAIwAI, mAJwAI, mARwAI, mNwAJ, mSwAJ, mKwAJ, mIwAJ, mJwAJ, mRwAJ, mLwAJ, mAIwAJ, mAJwAJ, mARwAJ, mNwAR, mSwAR, mKwAR, mIwAR, mJwAR, mRwAR, mLwAR, mAIwAR, mAJwAR, mARwAR, okkwI, okkwJ, okkwR, okkwAI, okkwAJ, okkwAR]
    · rw [e]; simp [mNwI, mSwI, mKwI, mIwI, mJwI, mRwI, mLwI, mAIwI, mAJwI, mARwI, mNwJ, mSwJ, mKwJ, mIwJ, mJwJ, mRwJ, mLwJ, mAIwJ, mAJwJ, mARwJ, mNwR, mSwR, mKwR, mIwR, mJwR, mRwR, mLwR, mAIwR, mAJwR, mARwR, mNwAI, mSwAI, mKwAI, mIwAI, mJwAI, mRwAI, mLwAI, mAIwAI, mAJwAI, mARwAI, mNwAJ, mSwAJ, mKwAJ, mIwAJ, mJwAJ, mRwAJ, mLwAJ, mAIwAJ, mAJwAJ, mARwAJ, mNwAR, mSwAR, mKwAR, mIwAR, mJwAR, mRwAR, mLwAR, mAIwAR, mAJwAR, mARwAR, okkwI, okkwJ, okkwR, okkwAI, okkwAJ, okkwAR]
theorem TI.fail {c : Int32} (h : TI b n s M i o) (hc : c ≠ 0) : TF (failF M c) c (tP b n i) := by
  have c0 := h.c0
  obtain ⟨F, -, hR, h4, h5, h6, h7, h8, h9, h10⟩ := h
  have e : failF M c = wI (wI (wI M 15 12 c) 15 13 (mI M 15 10)) 15 9 0 := by unfold failF; rw [if_pos h9]
  refine ⟨TFr.fail.fix F, ?_, ?_, hc, ?_, ?_⟩
  · have : mI (failF M c) 15 7 = mI M 15 7 := by rw [e]; simp [mNwI, mSwI, mKwI, mIwI, mJwI, mRwI, mLwI, mAIwI, mAJwI, mARwI, mNwJ, mSwJ, mKwJ, mIwJ, mJwJ, mRwJ, mLwJ, mAIwJ, mAJwJ, mARwJ, mNwR, mSwR, mKwR, mIwR, mJwR, mRwR, mLwR, mAIwR, mAJwR, mARwR, mNwAI, mSwAI, mKwAI, mIwAI, mJwAI, mRwAI, mLwAI, mAIwAI, mAJwAI, mARwAI, mNwAJ, mSwAJ, mKwAJ, mIwAJ, mJwAJ, mRwAJ, mLwAJ, mAIwAJ, mAJwAJ, mARwAJ, mNwAR, mSwAR, mKwAR, mIwAR, mJwAR, mRwAR, mLwAR, mAIwAR, mAJwAR, mARwAR, okkwI, okkwJ, okkwR, okkwAI, okkwAJ, okkwAR]
    rw [this]; exact c0
  · rw [e]; simp [mNwI, mSwI, mKwI, mIwI, mJwI, mRwI, mLwI, mAIwI, mAJwI, mARwI, mNwJ, mSwJ, mKwJ, mIwJ, mJwJ, mRwJ, mLwJ, mAIwJ, mAJwJ, mARwJ, mNwR, mSwR, mKwR, mIwR, mJwR, mRwR, mLwR, mAIwR, mAJwR, mARwR, mNwAI, mSwAI, mKwAI, mIwAI, mJwAI, mRwAI, mLwAI, mAIwAI, mAJwAI, mARwAI, mNwAJ, mSwAJ, mKwAJ, mIwAJ, mJwAJ, mRwAJ, mLwAJ, mAIwAJ, mAJwAJ, mARwAJ, mNwAR, mSwAR, mKwAR, mIwAR, mJwAR, mRwAR, mLwAR, mAIwAR, mAJwAR, mARwAR, okkwI, okkwJ, okkwR, okkwAI, okkwAJ, okkwAR]
  · rw [e]; simp [h7, mNwI, mSwI, mKwI, mIwI, mJwI, mRwI, mLwI, mAIwI, mAJwI, mARwI, mNwJ, mSwJ, mKwJ, mIwJ, mJwJ, mRwJ, mLwJ, mAIwJ, mAJwJ, mARwJ, mNwR, mSwR, mKwR, mIwR, mJwR, mRwR, mLwR, mAIwR, mAJwR, mARwR, mNwAI, mSwAI, mKwAI, mIwAI, mJwAI, mRwAI, mLwAI, mAIwAI, mAJwAI, mARwAI, mNwAJ, mSwAJ, mKwAJ, mIwAJ, mJwAJ, mRwAJ, mLwAJ, mAIwAJ, mAJwAJ, mARwAJ, mNwAR, mSwAR, mKwAR, mIwAR, mJwAR, mRwAR, mLwAR, mAIwAR, mAJwAR, mARwAR, okkwI, okkwJ, okkwR, okkwAI, okkwAJ, okkwAR]
  · rw [e]; simp [mNwI, mSwI, mKwI, mIwI, mJwI, mRwI, mLwI, mAIwI, mAJwI, mARwI, mNwJ, mSwJ, mKwJ, mIwJ, mJwJ, mRwJ, mLwJ, mAIwJ, mAJwJ, mARwJ, mNwR, mSwR, mKwR, mIwR, mJwR, mRwR, mLwR, mAIwR, mAJwR, mARwR, mNwAI, mSwAI, mKwAI, mIwAI, mJwAI, mRwAI, mLwAI, mAIwAI, mAJwAI, mARwAI, mNwAJ, mSwAJ, mKwAJ, mIwAJ, mJwAJ, mRwAJ, mLwAJ, mAIwAJ, mAJwAJ, mARwAJ, mNwAR, mSwAR, mKwAR, mIwAR, mJwAR, mRwAR, mLwAR, mAIwAR, mAJwAR, mARwAR, okkwI, okkwJ, okkwR, okkwAI, okkwAJ, okkwAR]
theorem TF.fail {f c : Int32} {p : Nat} (h : TF M f p) : failF M c = M := by
  obtain ⟨F, h1, h2, h3, h4, h5⟩ := h
  unfold failF
  rw [if_neg (by rw [h2]; exact h3)]
  exact wI_same h5
theorem TF.adv {f : Int32} {p : Nat} (h : TF M f p) : advF M = M := adv_off (by rw [h.2.2.1]; exact h.2.2.2.1)
theorem TI.opn' {o' : Nat} (h : TI b n s M i o) : TI b n s (wI M 15 8 (Int32.ofNat o')) i o' := by
  obtain ⟨F, h1, hR, h4, h5, h6, h7, h8, h9, h10⟩ := h
  exact ⟨F.i, h1, fun j hj => TFr.i.tk (hR j hj), by simp [h4, mNwI, mSwI, mKwI, mIwI, mJwI, mRwI, mLwI, mAIwI, mAJwI, mARwI, mNwJ, mSwJ, mKwJ, mIwJ, mJwJ, mRwJ, mLwJ, mAIwJ, mAJwJ, mARwJ, mNwR, mSwR, mKwR, mIwR, mJwR, mRwR, mLwR, mAIwR, mAJwR, mARwR, mNwAI, mSwAI, mKwAI, mIwAI, mJwAI, mRwAI, mLwAI, mAIwAI, mAJwAI, mARwAI, mNwAJ, mSwAJ, mKwAJ, mIwAJ, mJwAJ, mRwAJ, mLwAJ, mAIwAJ, mAJwAJ, mARwAJ, mNwAR, mSwAR, mKwAR, mIwAR, mJwAR, mRwAR, mLwAR, mAIwAR, mAJwAR, mARwAR, okkwI, okkwJ, okkwR, okkwAI, okkwAJ, okkwAR], by simp [mNwI, mSwI, mKwI, mIwI, mJwI, mRwI, mLwI, mAIwI, mAJwI, mARwI, mNwJ, mSwJ, mKwJ, mIwJ, mJwJ, mRwJ, mLwJ, mAIwJ, mAJwJ, mARwJ, mNwR, mSwR, mKwR, mIwR, mJwR, mRwR, mLwR, mAIwR, mAJwR, mARwR, mNwAI, mSwAI, mKwAI, mIwAI, mJwAI, mRwAI, mLwAI, mAIwAI, mAJwAI, mARwAI, mNwAJ, mSwAJ, mKwAJ, mIwAJ, mJwAJ, mRwAJ, mLwAJ, mAIwAJ, mAJwAJ, mARwAJ, mNwAR, mSwAR, mKwAR, mIwAR, mJwAR, mRwAR, mLwAR, mAIwAR, mAJwAR, mARwAR, okkwI, okkwJ, okkwR, okkwAI, okkwAJ, okkwAR], by simp [h6, mNwI, mSwI, mKwI, mIwI, mJwI, mRwI, mLwI, mAIwI, mAJwI, mARwI, mNwJ, mSwJ, mKwJ, mIwJ, mJwJ, mRwJ, mLwJ, mAIwJ, mAJwJ, mARwJ, mNwR, mSwR, mKwR, mIwR, mJwR, mRwR, mLwR, mAIwR, mAJwR, mARwR, mNwAI, mSwAI, mKwAI, mIwAI, mJwAI, mRwAI, mLwAI, mAIwAI, mAJwAI, mARwAI, mNwAJ, mSwAJ, mKwAJ, mIwAJ, mJwAJ, mRwAJ, mLwAJ, mAIwAJ, mAJwAJ, mARwAJ, mNwAR, mSwAR, mKwAR, mIwAR, mJwAR, mRwAR, mLwAR, mAIwAR, mAJwAR, mARwAR, okkwI, okkwJ, okkwR, okkwAI, okkwAJ, okkwAR], by simp [h7, mNwI, mSwI, mKwI, mIwI, mJwI, mRwI, mLwI, mAIwI, mAJwI, mARwI, mNwJ, mSwJ, mKwJ, mIwJ, mJwJ, mRwJ, mLwJ, mAIwJ, mAJwJ, mARwJ, mNwR, mSwR, mKwR, mIwR, mJwR, mRwR, mLwR, mAIwR, mAJwR, mARwR, mNwAI, mSwAI, mKwAI, mIwAI, mJwAI, mRwAI, mLwAI, mAIwAI, mAJwAI, mARwAI, mNwAJ, mSwAJ, mKwAJ, mIwAJ, mJwAJ, mRwAJ, mLwAJ, mAIwAJ, mAJwAJ, mARwAJ, mNwAR, mSwAR, mKwAR, mIwAR, mJwAR, mRwAR, mLwAR, mAIwAR, mAJwAR, mARwAR, okkwI, okkwJ, okkwR, okkwAI, okkwAJ, okkwAR], fun q1 q2 => by simp [h8 q1 q2, mNwI, mSwI, mKwI, mIwI, mJwI, mRwI, mLwI, mAIwI, mAJwI, mARwI, mNwJ, mSwJ, mKwJ, mIwJ, mJwJ, mRwJ, mLwJ, mAIwJ, mAJwJ, mARwJ, mNwR, mSwR, mKwR, mIwR, mJwR, mRwR, mLwR, mAIwR, mAJwR, mARwR, mNwAI, mSwAI, mKwAI, mIwAI, mJwAI, mRwAI, mLwAI, mAIwAI, mAJwAI, mARwAI, mNwAJ, mSwAJ, mKwAJ, mIwAJ, mJwAJ, mRwAJ, mLwAJ, mAIwAJ, mAJwAJ, mARwAJ, mNwAR, mSwAR, mKwAR, mIwAR, mJwAR, mRwAR, mLwAR, mAIwAR, mAJwAR, mARwAR, okkwI, okkwJ, okkwR, okkwAI, okkwAJ, okkwAR], by simp [h9, mNwI, mSwI, mKwI, mIwI, mJwI, mRwI, mLwI, mAIwI, mAJwI, mARwI, mNwJ, mSwJ, mKwJ, mIwJ, mJwJ, mRwJ, mLwJ, mAIwJ, mAJwJ, mARwJ, mNwR, mSwR, mKwR, mIwR, mJwR, mRwR, mLwR, mAIwR, mAJwR, mARwR, mNwAI, mSwAI, mKwAI, mIwAI, mJwAI, mRwAI, mLwAI, mAIwAI, mAJwAI, mARwAI, mNwAJ, mSwAJ, mKwAJ, mIwAJ, mJwAJ, mRwAJ, mLwAJ, mAIwAJ, mAJwAJ, mARwAJ, mNwAR, mSwAR, mKwAR, mIwAR, mJwAR, mRwAR, mLwAR, mAIwAR, mAJwAR, mARwAR, okkwI, okkwJ, okkwR, okkwAI, okkwAJ, okkwAR], h10⟩
theorem TF.opn' {f v : Int32} {p : Nat} (h : TF M f p) : TF (wI M 15 8 v) f p := by
  obtain ⟨F, h1, h2, h3, h4, h5⟩ := h
  exact ⟨F.i, by rw [show mI (wI M 15 8 v) 15 7 = mI M 15 7 by simp [mNwI, mSwI, mKwI, mIwI, mJwI, mRwI, mLwI, mAIwI, mAJwI, mARwI, mNwJ, mSwJ, mKwJ, mIwJ, mJwJ, mRwJ, mLwJ, mAIwJ, mAJwJ, mARwJ, mNwR, mSwR, mKwR, mIwR, mJwR, mRwR, mLwR, mAIwR, mAJwR, mARwR, mNwAI, mSwAI, mKwAI, mIwAI, mJwAI, mRwAI, mLwAI, mAIwAI, mAJwAI, mARwAI, mNwAJ, mSwAJ, mKwAJ, mIwAJ, mJwAJ, mRwAJ, mLwAJ, mAIwAJ, mAJwAJ, mARwAJ, mNwAR, mSwAR, mKwAR, mIwAR, mJwAR, mRwAR, mLwAR, mAIwAR, mAJwAR, mARwAR, okkwI, okkwJ, okkwR, okkwAI, okkwAJ, okkwAR]]; exact h1, by simp [h2, mNwI, mSwI, mKwI, mIwI, mJwI, mRwI, mLwI, mAIwI, mAJwI, mARwI, mNwJ, mSwJ, mKwJ, mIwJ, mJwJ, mRwJ, mLwJ, mAIwJ, mAJwJ, mARwJ, mNwR, mSwR, mKwR, mIwR, mJwR, mRwR, mLwR, mAIwR, mAJwR, mARwR, mNwAI, mSwAI, mKwAI, mIwAI, mJwAI, mRwAI, mLwAI, mAIwAI, mAJwAI, mARwAI, mNwAJ, mSwAJ, mKwAJ, mIwAJ, mJwAJ, mRwAJ, mLwAJ, mAIwAJ, mAJwAJ, mARwAJ, mNwAR, mSwAR, mKwAR, mIwAR, mJwAR, mRwAR, mLwAR, mAIwAR, mAJwAR, mARwAR, okkwI, okkwJ, okkwR, okkwAI, okkwAJ, okkwAR], h3, by simp [h4, mNwI, mSwI, mKwI, mIwI, mJwI, mRwI, mLwI, mAIwI, mAJwI, mARwI, mNwJ, mSwJ, mKwJ, mIwJ, mJwJ, mRwJ, mLwJ, mAIwJ, mAJwJ, mARwJ, mNwR, mSwR, mKwR, mIwR, mJwR, mRwR, mLwR, mAIwR, mAJwR, mARwR, mNwAI, mSwAI, mKwAI, mIwAI, mJwAI, mRwAI, mLwAI, mAIwAI, mAJwAI, mARwAI, mNwAJ, mSwAJ, mKwAJ, mIwAJ, mJwAJ, mRwAJ, mLwAJ, mAIwAJ, mAJwAJ, mARwAJ, mNwAR, mSwAR, mKwAR, mIwAR, mJwAR, mRwAR, mLwAR, mAIwAR, mAJwAR, mARwAR, okkwI, okkwJ, okkwR, okkwAI, okkwAJ, okkwAR], by simp [h5, mNwI, mSwI, mKwI, mIwI, mJwI, mRwI, mLwI, mAIwI, mAJwI, mARwI, mNwJ, mSwJ, mKwJ, mIwJ, mJwJ, mRwJ, mLwJ, mAIwJ, mAJwJ, mARwJ, mNwR, mSwR, mKwR, mIwR, mJwR, mRwR, mLwR, mAIwR, mAJwR, mARwR, mNwAI, mSwAI, mKwAI, mIwAI, mJwAI, mRwAI, mLwAI, mAIwAI, mAJwAI, mARwAI, mNwAJ, mSwAJ, mKwAJ, mIwAJ, mJwAJ, mRwAJ, mLwAJ, mAIwAJ, mAJwAJ, mARwAJ, mNwAR, mSwAR, mKwAR, mIwAR, mJwAR, mRwAR, mLwAR, mAIwAR, mAJwAR, mARwAR, okkwI, okkwJ, okkwR, okkwAI, okkwAJ, okkwAR]⟩
theorem TI.fr {M' : Mem} (h : TI b n s M i o) (F' : Fix M') (h15 : mI M' 15 = mI M 15) (j15 : mJ M' 15 = mJ M 15) (a16 : mAI M' 16 = mAI M 16) (a17 : mAI M' 17 = mAI M 17) (a18 : mAJ M' 18 = mAJ M 18) : TI b n s M' i o := by
  obtain ⟨F, h1, hR, h4, h5, h6, h7, h8, h9, h10⟩ := h
  refine ⟨F', h1, fun j hj => ?_, by rw [h15]; exact h4, by rw [h15]; exact h5, by rw [h15]; exact h6, by rw [h15]; exact h7, by rw [j15]; exact h8, by rw [h15]; exact h9, h10⟩
  unfold TkR
  rw [a16, a17, a18]
  exact hR j hj
theorem TF.fr {M' : Mem} {f : Int32} {p : Nat} (h : TF M f p) (F' : Fix M') (h15 : mI M' 15 = mI M 15) : TF M' f p := by
  obtain ⟨F, h1, h2, h3, h4, h5⟩ := h
  exact ⟨F', by rw [h15]; exact h1, by rw [h15]; exact h2, h3, by rw [h15]; exact h4, by rw [h15]; exact h5⟩
end
section
variable {b : Nat → Int32} {n s : Nat} {M : Mem} {i o h : Nat} {Q : Option Value → Mem → Prop}
theorem A_adv (hT : TI b n s M i o) (hs : i < s) (H1 : tK b n (i + 1) ≠ 0 → ∀ M', TI b n s M' (i + 1) o → TFr M M' → Q none M') (H0 : tK b n (i + 1) = 0 → ∀ M', TF M' 1 (tP b n (i + 1)) → TFr M M' → Q none M') : E (h + 1) mdX7_advance [.ref 15] M Q := by
  refine S_adv hT.1 hT.c0 ?_
  by_cases hk : tK b n (i + 1) = 0
  · exact H0 hk _ ((hT.adv hs).2 hk) TFr.adv
  · exact H1 hk _ ((hT.adv hs).1 hk) TFr.adv
theorem F_adv {f : Int32} {p : Nat} (hT : TF M f p) (H : Q none M) : E (h + 1) mdX7_advance [.ref 15] M Q := S_adv hT.1 hT.2.1 (by rw [hT.adv]; exact H)
theorem A_fail {c : Int32} (hT : TI b n s M i o) (hc : c ≠ 0) (H : ∀ M', TF M' c (tP b n i) → TFr M M' → Q none M') : E (h + 1) mdX7_fail [.ref 15, .int c] M Q := S_fail hT.1 (H _ (hT.fail hc) TFr.fail)
theorem F_fail {c f : Int32} {p : Nat} (hT : TF M f p) (H : Q none M) : E (h + 1) mdX7_fail [.ref 15, .int c] M Q := S_fail hT.1 (by rw [hT.fail]; exact H)
theorem A_expect {c : Int32} (hT : TI b n s M i o) (hc1 : c ≠ 1) (H1 : tK b n i = c → tK b n (i + 1) ≠ 0 → ∀ M', TI b n s M' (i + 1) o → TFr M M' → Q none M') (H0 : tK b n i = c → tK b n (i + 1) = 0 → ∀ M', TF M' 1 (tP b n (i + 1)) → TFr M M' → Q none M') (H2 : tK b n i ≠ c → ∀ M', TF M' 2 (tP b n i) → TFr M M' → Q none M') (hend : tK b n s = 0 ∨ tK b n s = 1) : E (h + 2) mdX7_expect [.ref 15, .int c] M Q := by
  refine S_expect hT.1 hT.c0 ?_
  have h9 : mI M 15 9 = tK b n i := hT.2.2.2.2.2.1
  rw [h9]
  by_cases hk : tK b n i = c
  · rw [if_pos hk]
    have hs : i < s := by
      have h3 := hT.2.1.2.2
      have : i ≠ s := by
        rintro rfl
        rcases hend with q | q
        · exact hT.2.2.2.2.2.2.2.2.2 q
        · exact hc1 (hk.symm.trans q)
      omega
    by_cases hk1 : tK b n (i + 1) = 0
    · exact H0 hk hk1 _ ((hT.adv hs).2 hk1) TFr.adv
    · exact H1 hk hk1 _ ((hT.adv hs).1 hk1) TFr.adv
  · rw [if_neg hk]
    exact H2 hk _ (hT.fail (by decide)) TFr.fail
theorem F_expect {c f : Int32} {p : Nat} (hT : TF M f p) (hc : c ≠ 0) (H : Q none M) : E (h + 2) mdX7_expect [.ref 15, .int c] M Q := by
  refine S_expect hT.1 hT.2.1 ?_
  rw [hT.2.2.2.2.2, if_neg (fun z => hc z.symm), hT.fail]
  exact H
theorem A_opens (hT : TI b n s M i o) (ho : o ≤ 15) (H1 : o < 15 → ∀ M', TI b n s M' i (o + 1) → TFr M M' → Q none M') (H0 : o = 15 → ∀ M', TF M' 6 (tP b n i) → TFr M M' → Q none M') : E (h + 2) mdX7_opens [.ref 15] M Q := by
  refine S_opens hT.1 ?_
  rw [hT.2.2.2.2.1, succ32]
  have e : (Int32.ofNat o < 15) ↔ o < 15 := ltn32 (b := 15) (by omega) (by decide)
  by_cases h15 : o < 15
  · rw [if_pos (e.mpr h15)]
    exact H1 h15 _ hT.opn' TFr.i
  · rw [if_neg (fun z => h15 (e.mp z))]
    exact H0 (by omega) _ (hT.fail (by decide)) TFr.fail
theorem F_opens {f : Int32} {p : Nat} (hT : TF M f p) (H : ∀ M', TF M' f p → TFr M M' → Q none M') : E (h + 2) mdX7_opens [.ref 15] M Q := by
  refine S_opens hT.1 ?_
  split
  · exact H _ hT.opn' TFr.i
  · rw [hT.fail]; exact H _ hT TFr.rf
theorem A_closes (hT : TI b n s M i (o + 1)) (ho : o ≤ 20) (H : ∀ M', TI b n s M' i o → TFr M M' → Q none M') : E (h + 1) mdX7_closes [.ref 15] M Q := by
  refine S_closes hT.1 ?_
  rw [hT.2.2.2.2.1]
  have e : Int32.ofNat (o + 1) - 1 = Int32.ofNat o := sub32 (c := 1) (by omega) (by omega)
  rw [e]
  exact H _ hT.opn' TFr.i
theorem F_closes {f : Int32} {p : Nat} (hT : TF M f p) (H : ∀ M', TF M' f p → TFr M M' → Q none M') : E (h + 1) mdX7_closes [.ref 15] M Q := S_closes hT.1 (H _ hT.opn' TFr.i)
end
end
section
/-! what a module's text has told: signals, variables; looking up names -/
def fd : List Int64 → Int64 → Option Nat
  | [], _ => none
  | x :: l, c => if x = c then some 0 else (fd l c).map (fun k => k + 1)
def oi (o : Option Nat) : Int32 := match o with
  | none => -1
  | some k => Int32.ofNat k
theorem fd_some {c : Int64} : ∀ {l : List Int64} {k : Nat}, fd l c = some k → k < l.length ∧ l.getD k 0 = c := by
  intro l
  induction l with
  | nil => intro k h; cases h
  | cons x l ih =>
    intro k h
    unfold fd at h
    by_cases hx : x = c
    · rw [if_pos hx] at h
      cases h
      exact ⟨Nat.zero_lt_succ _, hx⟩
    · rw [if_neg hx] at h
      obtain ⟨j, hj, rfl⟩ := Option.map_eq_some_iff.mp h
      obtain ⟨a1, a2⟩ := ih hj
      exact ⟨Nat.succ_lt_succ a1, a2⟩
theorem oi_ne {k : Nat} (h : k < 1000) : oi (some k) ≠ -1 := by
  show Int32.ofNat k ≠ -1
  intro z
  have := congrArg Int32.toInt z
  rw [ti32 (by omega)] at this
  have e : (-1 : Int32).toInt = -1 := by decide
  rw [e] at this
  omega
/-- the rows of a module: names, roles, how its numbers come together; variables -/
def EnvC (M : Mem) (n0 : Nat) (sN : List Int64) (ro mx : List Int32) (vN : List Int64) : Prop :=
  ok M n0 3 ∧ (sN.length ≤ 16 ∧ ro.length = sN.length ∧ mx.length = sN.length ∧ vN.length ≤ 6) ∧ mI M n0 9 = Int32.ofNat sN.length ∧ mI M n0 12 = Int32.ofNat vN.length ∧
  mR M n0 0 = some (n0 + 1) ∧ (ok M (n0 + 1) 23 ∧ mL M (n0 + 1) = 16 ∧ ∀ j, j < sN.length → mAJ M (n0 + 1) j = sN.getD j 0) ∧
  mR M n0 1 = some (n0 + 2) ∧ (ok M (n0 + 2) 21 ∧ mL M (n0 + 2) = 16 ∧ ∀ j, j < sN.length → mAI M (n0 + 2) j = ro.getD j 0) ∧
  mR M n0 2 = some (n0 + 3) ∧ (ok M (n0 + 3) 21 ∧ mL M (n0 + 3) = 16 ∧ ∀ j, j < sN.length → mAI M (n0 + 3) j = mx.getD j 0) ∧
  mR M n0 4 = some (n0 + 5) ∧ (ok M (n0 + 5) 23 ∧ mL M (n0 + 5) = 6 ∧ ∀ j, j < vN.length → mAJ M (n0 + 5) j = vN.getD j 0) ∧
  mR M n0 8 = some (n0 + 22)
theorem EnvC.fr {M M' : Mem} {n0 : Nat} {sN : List Int64} {ro mx : List Int32} {vN : List Int64} (h : EnvC M n0 sN ro mx vN) (hE : mE M M') (hs : ∀ a, n0 ≤ a → a ≤ n0 + 5 → sameRow M M' a) : EnvC M' n0 sN ro mx vN := by
  obtain ⟨h1, h2, h3, h4, h5, ⟨a1, a2, a3⟩, h6, ⟨b1, b2, b3⟩, h7, ⟨c1, c2, c3⟩, h8, ⟨d1, d2, d3⟩, h9⟩ := h
  have s0 := hs n0 (Nat.le_refl _) (by omega)
  have s1 := hs (n0 + 1) (by omega) (by omega)
  have s2 := hs (n0 + 2) (by omega) (by omega)
  have s3 := hs (n0 + 3) (by omega) (by omega)
  have s5 := hs (n0 + 5) (by omega) (by omega)
  refine ⟨ok_E h1 hE, h2, by rw [s0.1]; exact h3, by rw [s0.1]; exact h4, by rw [s0.2.2.1]; exact h5, ⟨ok_E a1 hE, (hE.2.2 _ a1.1).2.trans a2, fun j hj => by rw [s1.2.2.2.2.1]; exact a3 j hj⟩, by rw [s0.2.2.1]; exact h6, ⟨ok_E b1 hE, (hE.2.2 _ b1.1).2.trans b2, fun j hj => by rw [s2.2.2.2.1]; exact b3 j hj⟩, by rw [s0.2.2.1]; exact h7, ⟨ok_E c1 hE, (hE.2.2 _ c1.1).2.trans c2, fun j hj => by rw [s3.2.2.2.1]; exact c3 j hj⟩, by rw [s0.2.2.1]; exact h8, ⟨ok_E d1 hE, (hE.2.2 _ d1.1).2.trans d2, fun j hj => by rw [s5.2.2.2.2.1]; exact d3 j hj⟩, by rw [s0.2.2.1]; exact h9⟩
def oj (j : Nat) (o : Option Nat) : Int32 := match o with
  | none => -1
  | some k => Int32.ofNat (j + k)
theorem oj_map {j : Nat} {o : Option Nat} : oj j (o.map (fun k => k + 1)) = oj (j + 1) o := by
  cases o with
  | none => rfl
  | some k => show Int32.ofNat (j + (k + 1)) = Int32.ofNat (j + 1 + k); congr 1; omega
theorem sig_loop {h n0 N : Nat} {c : Int64} {M : Mem} {Q : Option Value → Mem → Prop} (o0 : ok M n0 3) (hN : mI M n0 9 = Int32.ofNat N) (h16 : N ≤ 16) (r0 : mR M n0 0 = some (n0 + 1)) (o1 : ok M (n0 + 1) 23) (l1 : mL M (n0 + 1) = 16) : ∀ (l : List Int64) (j : Nat), j + l.length = N → (∀ m, m < l.length → mAJ M (n0 + 1) (j + m) = l.getD m 0) → Q (some (.int (oj j (fd l c)))) M → T (h + 1) mdX1_signalNamed 2 [(0, .ref n0), (1, .long c), (3, .int (Int32.ofNat j))] [] M Q := by
  intro l
  induction l with
  | nil =>
    intro j hj _ H
    refine VX1_signalNamed_2 ?_
    unfold DX1_signalNamed_2
    have hj : j = N := hj
    rw [hN]
    refine ⟨o0, fun _ => H, fun hc => absurd ((le32 (by omega) (by omega)).mpr (by omega)) hc⟩
  | cons x l ih =>
    intro j hj hv H
    have hj : j + (l.length + 1) = N := hj
    refine VX1_signalNamed_2 ?_
    unfold DX1_signalNamed_2
    rw [hN, lt32 (by omega), succ32]
    have v0 : mAJ M (n0 + 1) j = x := hv 0 (Nat.zero_lt_succ _)
    unfold fd at H
    refine ⟨o0, fun hc => absurd ((le32 (by omega) (by omega)).mp hc) (by omega), fun _ => ⟨n0 + 1, r0, o1, by rw [l1]; exact vp_of (by omega) (by decide), fun hc => ?_, fun hc => ?_⟩⟩
    · rw [v0, lgz] at hc
      rw [if_neg hc, oj_map] at H
      refine ih (j + 1) (by omega) (fun m hm => ?_) H
      have := hv (m + 1) (Nat.succ_lt_succ hm)
      rw [show j + 1 + m = j + (m + 1) by omega, this]
      rfl
    · rw [v0, lgz] at hc
      rw [if_pos hc] at H
      exact H
theorem S_sigNamed {h n0 : Nat} {c : Int64} {M : Mem} {sN : List Int64} {ro mx : List Int32} {vN : List Int64} {Q : Option Value → Mem → Prop} (hE : EnvC M n0 sN ro mx vN) (H : Q (some (.int (oi (fd sN c)))) M) : E (h + 1) mdX1_signalNamed [.ref n0, .long c] M Q := by
  obtain ⟨h1, h2, h3, h4, h5, ⟨a1, a2, a3⟩, -⟩ := hE
  refine KX1_signalNamed ?_
  unfold DX1_signalNamed_0
  refine sig_loop h1 h3 h2.1 h5 a1 a2 sN 0 (Nat.zero_add _) (fun m hm => by rw [Nat.zero_add]; exact a3 m hm) ?_
  have e : oj 0 (fd sN c) = oi (fd sN c) := by cases fd sN c with
    | none => rfl
    | some k => show Int32.ofNat (0 + k) = Int32.ofNat k; rw [Nat.zero_add]
  rw [e]
  exact H
theorem var_loop {h n0 N : Nat} {c : Int64} {M : Mem} {Q : Option Value → Mem → Prop} (o0 : ok M n0 3) (hN : mI M n0 12 = Int32.ofNat N) (h6 : N ≤ 6) (r0 : mR M n0 4 = some (n0 + 5)) (o1 : ok M (n0 + 5) 23) (l1 : mL M (n0 + 5) = 6) : ∀ (l : List Int64) (j : Nat), j + l.length = N → (∀ m, m < l.length → mAJ M (n0 + 5) (j + m) = l.getD m 0) → Q (some (.int (oj j (fd l c)))) M → T (h + 1) mdX1_variableNamed 2 [(0, .ref n0), (1, .long c), (3, .int (Int32.ofNat j))] [] M Q := by
  intro l
  induction l with
  | nil =>
    intro j hj _ H
    refine VX1_variableNamed_2 ?_
    unfold DX1_variableNamed_2
    have hj : j = N := hj
    rw [hN]
    refine ⟨o0, fun _ => H, fun hc => absurd ((le32 (by omega) (by omega)).mpr (by omega)) hc⟩
  | cons x l ih =>
    intro j hj hv H
    have hj : j + (l.length + 1) = N := hj
    refine VX1_variableNamed_2 ?_
    unfold DX1_variableNamed_2
    rw [hN, lt32 (by omega), succ32]
    have v0 : mAJ M (n0 + 5) j = x := hv 0 (Nat.zero_lt_succ _)
    unfold fd at H
    refine ⟨o0, fun hc => absurd ((le32 (by omega) (by omega)).mp hc) (by omega), fun _ => ⟨n0 + 5, r0, o1, by rw [l1]; exact vp_of (by omega) (by decide), fun hc => ?_, fun hc => ?_⟩⟩
    · rw [v0, lgz] at hc
      rw [if_neg hc, oj_map] at H
      refine ih (j + 1) (by omega) (fun m hm => ?_) H
      have := hv (m + 1) (Nat.succ_lt_succ hm)
      rw [show j + 1 + m = j + (m + 1) by omega, this]
      rfl
    · rw [v0, lgz] at hc
      rw [if_pos hc] at H
      exact H
theorem S_varNamed {h n0 : Nat} {c : Int64} {M : Mem} {sN : List Int64} {ro mx : List Int32} {vN : List Int64} {Q : Option Value → Mem → Prop} (hE : EnvC M n0 sN ro mx vN) (H : Q (some (.int (oi (fd vN c)))) M) : E (h + 1) mdX1_variableNamed [.ref n0, .long c] M Q := by
  obtain ⟨h1, h2, h3, h4, h5, -, -, -, -, -, h8, ⟨a1, a2, a3⟩, -⟩ := hE
  refine KX1_variableNamed ?_
  unfold DX1_variableNamed_0
  refine var_loop h1 h4 h2.2.2.2 h8 a1 a2 vN 0 (Nat.zero_add _) (fun m hm => by rw [Nat.zero_add]; exact a3 m hm) ?_
  have e : oj 0 (fd vN c) = oi (fd vN c) := by cases fd vN c with
    | none => rfl
    | some k => show Int32.ofNat (0 + k) = Int32.ofNat k; rw [Nat.zero_add]
  rw [e]
  exact H
end
section
/-! sums, in the middle: nodes in postfix order; a fault ends all -/
abbrev Nd : Type := Nat × Int64 × Nat
def cdN (x : Nd) : List Int32 := if x.1 = 0 then [1, x.2.1.toInt32] else if x.1 = 1 then [2, x.2.1.toInt32] else if x.1 = 2 then [3, x.2.1.toInt32] else if x.1 = 3 then [4] else if x.1 = 4 then [7] else if x.1 = 5 then [8] else if x.1 = 6 then [9] else if x.1 = 7 then [5] else [6]
def cdL (X : List Nd) : List Int32 := X.flatMap cdN
theorem cdL_app {X Y : List Nd} : cdL (X ++ Y) = cdL X ++ cdL Y := List.flatMap_append
theorem cdN_len {x : Nd} : (cdN x).length ≤ 2 := by
  unfold cdN
  repeat (first | split | exact Nat.le_refl _ | exact Nat.le_succ _)
theorem cdL_len {X : List Nd} : (cdL X).length ≤ 2 * X.length := by
  induction X with
  | nil => exact Nat.le_refl _
  | cons x X ih =>
    show (cdN x ++ cdL X).length ≤ _
    rw [List.length_append]
    have := @cdN_len x
    show _ ≤ 2 * (X.length + 1)
    omega
def adv' (b : Nat → Int32) (n i : Nat) : Except (Int32 × Nat) Nat := if tK b n (i + 1) = 0 then .error (1, tP b n (i + 1)) else .ok (i + 1)
def opS (k : Int32) : Nat := if k = 22 then 4 else if k = 23 then 5 else if k = 24 then 6 else if k = 20 then 7 else 8
def rd (b : Nat → Int32) (n : Nat) (sN : List Int64) (mx : List Int32) (vN : List Int64) : Nat → Nat → Nat → Nat → List Nd → Int32 → Except (Int32 × Nat) (Nat × List Nd × Int32)
  | 0, _, _, _, _, _ => .error (0, 0)
  | g + 1, md, i, o, X, u =>
    if md = 0 then
      if tK b n i = 3 then (adv' b n i).bind fun j => .ok (j, X ++ [(0, tC b n i, 0)], u)
      else if tK b n i = 2 then (match fd vN (tC b n i) with
        | none => .error (4, tP b n i)
        | some k => (adv' b n i).bind fun j => .ok (j, X ++ [(1, Int64.ofNat k, 0)], u ||| ((1 : Int32) <<< (Int32.ofNat k &&& 31))))
      else if tK b n i = 19 then (adv' b n i).bind fun j => if tK b n j = 2 then (match fd sN (tC b n j) with
          | none => .error (4, tP b n j)
          | some k => if mx.getD k 0 = 0 then .error (4, tP b n j) else (adv' b n j).bind fun j' => .ok (j', X ++ [(2, Int64.ofNat k, 0)], u))
        else .error (2, tP b n j)
      else if tK b n i = 21 then (if o = 15 then .error (6, tP b n i) else (adv' b n i).bind fun j => (rd b n sN mx vN g 0 j (o + 1) X u).bind fun r => .ok (r.1, r.2.1 ++ [(3, Int64.ofNat (r.2.1.length - 1), 0)], r.2.2))
      else if tK b n i = 15 then (if o = 15 then .error (6, tP b n i) else (adv' b n i).bind fun j => (rd b n sN mx vN g 3 j (o + 1) X u).bind fun r => if tK b n r.1 = 16 then (adv' b n r.1).bind fun j' => .ok (j', r.2) else .error (2, tP b n r.1))
      else .error (2, tP b n i)
    else if md = 1 then (rd b n sN mx vN g 0 i o X u).bind fun r => rd b n sN mx vN g 2 r.1 o r.2.1 r.2.2
    else if md = 2 then (if tK b n i = 22 ∨ tK b n i = 23 ∨ tK b n i = 24 then (adv' b n i).bind fun j => (rd b n sN mx vN g 0 j o X u).bind fun r => rd b n sN mx vN g 2 r.1 o (r.2.1 ++ [(opS (tK b n i), Int64.ofNat (X.length - 1), r.2.1.length - 1)]) r.2.2 else .ok (i, X, u))
    else if md = 3 then (rd b n sN mx vN g 1 i o X u).bind fun r => rd b n sN mx vN g 4 r.1 o r.2.1 r.2.2
    else (if tK b n i = 20 ∨ tK b n i = 21 then (adv' b n i).bind fun j => (rd b n sN mx vN g 1 j o X u).bind fun r => rd b n sN mx vN g 4 r.1 o (r.2.1 ++ [(opS (tK b n i), Int64.ofNat (X.length - 1), r.2.1.length - 1)]) r.2.2 else .ok (i, X, u))
/-- the stop: the first token that is none, or the end -/
def Sto (b : Nat → Int32) (n s : Nat) : Prop := s ≤ n ∧ n ≤ 800 ∧ (tK b n s = 0 ∨ tK b n s = 1) ∧ ∀ j, j < s → tK b n j ≠ 0 ∧ tK b n j ≠ 1
theorem Sto.lt {b : Nat → Int32} {n s i : Nat} (h : Sto b n s) (hi : i ≤ s) (h0 : tK b n i ≠ 0) (h1 : tK b n i ≠ 1) : i < s := by
  rcases Nat.lt_or_eq_of_le hi with q | q
  · exact q
  · subst q
    rcases h.2.2.1 with q | q
    · exact absurd q h0
    · exact absurd q h1
theorem adv_cases {b : Nat → Int32} {n i : Nat} : (tK b n (i + 1) = 0 ∧ adv' b n i = .error (1, tP b n (i + 1))) ∨ (tK b n (i + 1) ≠ 0 ∧ adv' b n i = .ok (i + 1)) := by
  unfold adv'
  by_cases h : tK b n (i + 1) = 0
  · exact Or.inl ⟨h, by rw [if_pos h]⟩
  · exact Or.inr ⟨h, by rw [if_neg h]⟩
/-- what a result keeps to -/
def RdOk (b : Nat → Int32) (n s md i : Nat) (X : List Nd) (g : Nat) (R : Except (Int32 × Nat) (Nat × List Nd × Int32)) : Prop := match R with
  | .error e => 6 * (s + 1 - i) + md ≤ g → e.1 ≠ 0
  | .ok r => i ≤ r.1 ∧ r.1 ≤ s ∧ tK b n r.1 ≠ 0 ∧ (∃ Y, r.2.1 = X ++ Y ∧ Y.length ≤ r.1 - i) ∧ (md = 0 ∨ md = 1 ∨ md = 3 → i < r.1 ∧ X.length < r.2.1.length)
theorem rdE {b : Nat → Int32} {n s md i : Nat} {X : List Nd} {g : Nat} {c : Int32} {p : Nat} (h : c ≠ 0) : RdOk b n s md i X g (.error (c, p)) := fun _ => h
theorem rd_ok {b : Nat → Int32} {n s : Nat} {sN : List Int64} {mx : List Int32} {vN : List Int64} (hS : Sto b n s) : ∀ (g md i o : Nat) (X : List Nd) (u : Int32), md ≤ 4 → i ≤ s → tK b n i ≠ 0 → RdOk b n s md i X g (rd b n sN mx vN g md i o X u) := by
  intro g
  induction g with
  | zero => intro md i o X u hm hi h0; unfold rd; intro hg; omega
  | succ g ih =>
    intro md i o X u hm hi h0
    unfold rd
    have one : ∀ (x : Nd), i < s → tK b n (i + 1) ≠ 0 → ∀ u', RdOk b n s 0 i X (g + 1) (.ok (i + 1, X ++ [x], u')) := fun x hs h1 u' => ⟨Nat.le_succ _, hs, h1, ⟨[x], rfl, by show 1 ≤ i + 1 - i; omega⟩, fun _ => ⟨Nat.lt_succ_self _, by rw [List.length_append]; exact Nat.lt_succ_self _⟩⟩
    by_cases m0 : md = 0
    · subst m0
      rw [if_pos rfl]
      split
      · rename_i hk
        have hs := hS.lt hi h0 (by rw [hk]; decide)
        rcases adv_cases (b := b) (n := n) (i := i) with ⟨h1, e⟩ | ⟨h1, e⟩ <;> rw [e]
        · exact rdE (by decide)
        · exact one _ hs h1 _
      · split
        · rename_i hk
          have hs := hS.lt hi h0 (by rw [hk]; decide)
          split
          · exact rdE (by decide)
          · rcases adv_cases (b := b) (n := n) (i := i) with ⟨h1, e⟩ | ⟨h1, e⟩ <;> rw [e]
            · exact rdE (by decide)
            · exact one _ hs h1 _
        · split
          · rename_i hk
            have hs := hS.lt hi h0 (by rw [hk]; decide)
            rcases adv_cases (b := b) (n := n) (i := i) with ⟨h1, e⟩ | ⟨h1, e⟩ <;> rw [e]
            · exact rdE (by decide)
            · show RdOk b n s 0 i X (g + 1) (if tK b n (i + 1) = 2 then _ else _)
              split
              · rename_i hk2
                have hs2 := hS.lt hs h1 (by rw [hk2]; decide)
                split
                · exact rdE (by decide)
                · split
                  · exact rdE (by decide)
                  · rcases adv_cases (b := b) (n := n) (i := i + 1) with ⟨h2, e2⟩ | ⟨h2, e2⟩ <;> rw [e2]
                    · exact rdE (by decide)
                    · exact ⟨by show i ≤ i + 1 + 1; omega, hs2, h2, ⟨[_], rfl, by show 1 ≤ i + 1 + 1 - i; omega⟩, fun _ => ⟨by show i < i + 1 + 1; omega, by rw [List.length_append]; exact Nat.lt_succ_self _⟩⟩
              · exact rdE (by decide)
          · split
            · rename_i hk
              have hs := hS.lt hi h0 (by rw [hk]; decide)
              split
              · exact rdE (by decide)
              · rcases adv_cases (b := b) (n := n) (i := i) with ⟨h1, e⟩ | ⟨h1, e⟩ <;> rw [e]
                · exact rdE (by decide)
                · have := ih 0 (i + 1) (o + 1) X u (by decide) hs h1
                  show RdOk b n s 0 i X (g + 1) ((rd b n sN mx vN g 0 (i + 1) (o + 1) X u).bind _)
                  generalize rd b n sN mx vN g 0 (i + 1) (o + 1) X u = R at this
                  cases R with
                  | error e => intro hg; exact this (by omega)
                  | ok r =>
                    obtain ⟨a1, a2, a3, ⟨Y, a4, a5⟩, a6⟩ := this
                    refine ⟨by show i ≤ r.1; omega, a2, a3, ⟨Y ++ [_], by show r.2.1 ++ _ = X ++ (Y ++ _); rw [a4, List.append_assoc], by rw [List.length_append]; show Y.length + 1 ≤ r.1 - i; omega⟩, fun _ => ⟨by show i < r.1; omega, ?_⟩⟩
                    show X.length < (r.2.1 ++ [_]).length
                    rw [List.length_append, a4, List.length_append]
                    show X.length < X.length + Y.length + 1
                    omega
            · split
              · rename_i hk
                have hs := hS.lt hi h0 (by rw [hk]; decide)
                split
                · exact rdE (by decide)
                · rcases adv_cases (b := b) (n := n) (i := i) with ⟨h1, e⟩ | ⟨h1, e⟩ <;> rw [e]
                  · exact rdE (by decide)
                  · have := ih 3 (i + 1) (o + 1) X u (by decide) hs h1
                    show RdOk b n s 0 i X (g + 1) ((rd b n sN mx vN g 3 (i + 1) (o + 1) X u).bind _)
                    generalize rd b n sN mx vN g 3 (i + 1) (o + 1) X u = R at this
                    cases R with
                    | error e => intro hg; exact this (by omega)
                    | ok r =>
                      obtain ⟨a1, a2, a3, ⟨Y, a4, a5⟩, a6⟩ := this
                      show RdOk b n s 0 i X (g + 1) (if tK b n r.1 = 16 then _ else _)
                      split
                      · rename_i hk2
                        have hs2 := hS.lt a2 a3 (by rw [hk2]; decide)
                        rcases adv_cases (b := b) (n := n) (i := r.1) with ⟨h2, e2⟩ | ⟨h2, e2⟩ <;> rw [e2]
                        · exact rdE (by decide)
                        · refine ⟨by show i ≤ r.1 + 1; omega, hs2, h2, ⟨Y, a4, by show Y.length ≤ r.1 + 1 - i; omega⟩, fun _ => ⟨by show i < r.1 + 1; omega, (a6 (by decide)).2⟩⟩
                      · exact rdE (by decide)
              · exact rdE (by decide)
    rw [if_neg m0]
    have two : ∀ (m1 m2 : Nat), (m1 = 0 ∨ m1 = 1) → (m2 = 2 ∨ m2 = 4) → m1 + 1 ≤ md → m2 ≤ md + 1 → (md = 1 ∨ md = 3) → RdOk b n s md i X (g + 1) ((rd b n sN mx vN g m1 i o X u).bind fun r => rd b n sN mx vN g m2 r.1 o r.2.1 r.2.2) := by
      intro m1 m2 h1 h2 h3 h4 h5
      have := ih m1 i o X u (by omega) hi h0
      generalize rd b n sN mx vN g m1 i o X u = R at this
      cases R with
      | error e => intro hg; exact this (by omega)
      | ok r =>
        obtain ⟨a1, a2, a3, ⟨Y, a4, a5⟩, a6⟩ := this
        have a7 := a6 (by omega)
        have := ih m2 r.1 o r.2.1 r.2.2 (by omega) a2 a3
        show RdOk b n s md i X (g + 1) (rd b n sN mx vN g m2 r.1 o r.2.1 r.2.2)
        generalize rd b n sN mx vN g m2 r.1 o r.2.1 r.2.2 = R2 at this
        cases R2 with
        | error e => intro hg; exact this (by omega)
        | ok r2 =>
          obtain ⟨b1, b2, b3, ⟨Z, b4, b5⟩, b6⟩ := this
          refine ⟨by omega, b2, b3, ⟨Y ++ Z, by rw [b4, a4, List.append_assoc], by rw [List.length_append]; omega⟩, fun _ => ⟨by omega, ?_⟩⟩
          rw [b4, List.length_append]
          omega
    have lp : ∀ (m1 : Nat) (y : List Nd → Nd), (m1 = 0 ∨ m1 = 1) → (md = 2 ∨ md = 4) → i < s → RdOk b n s md i X (g + 1) ((adv' b n i).bind fun j => (rd b n sN mx vN g m1 j o X u).bind fun r => rd b n sN mx vN g md r.1 o (r.2.1 ++ [y r.2.1]) r.2.2) := by
      intro m1 y h1 h5 hs
      rcases adv_cases (b := b) (n := n) (i := i) with ⟨k1, e⟩ | ⟨k1, e⟩ <;> rw [e]
      · exact rdE (by decide)
      · have := ih m1 (i + 1) o X u (by omega) hs k1
        show RdOk b n s md i X (g + 1) ((rd b n sN mx vN g m1 (i + 1) o X u).bind fun r => rd b n sN mx vN g md r.1 o (r.2.1 ++ [y r.2.1]) r.2.2)
        generalize rd b n sN mx vN g m1 (i + 1) o X u = R at this
        cases R with
        | error e => intro hg; exact this (by omega)
        | ok r =>
          obtain ⟨a1, a2, a3, ⟨Y, a4, a5⟩, a6⟩ := this
          have := ih md r.1 o (r.2.1 ++ [y r.2.1]) r.2.2 hm a2 a3
          show RdOk b n s md i X (g + 1) (rd b n sN mx vN g md r.1 o (r.2.1 ++ [y r.2.1]) r.2.2)
          generalize rd b n sN mx vN g md r.1 o (r.2.1 ++ [y r.2.1]) r.2.2 = R2 at this
          cases R2 with
          | error e => intro hg; exact this (by omega)
          | ok r2 =>
            obtain ⟨b1, b2, b3, ⟨Z, b4, b5⟩, b6⟩ := this
            refine ⟨by omega, b2, b3, ⟨Y ++ ([y r.2.1] ++ Z), by rw [b4, a4]; simp only [List.append_assoc], by rw [List.length_append, List.length_append]; show Y.length + (1 + Z.length) ≤ _; omega⟩, fun q => by omega⟩
    have stay : RdOk b n s md i X (g + 1) (.ok (i, X, u)) ∨ md = 1 ∨ md = 3 := by
      by_cases q : md = 1 ∨ md = 3
      · exact Or.inr q
      · exact Or.inl ⟨Nat.le_refl _, hi, h0, ⟨[], by rw [List.append_nil], Nat.zero_le _⟩, fun z => by omega⟩
    by_cases m1 : md = 1
    · rw [if_pos m1]; exact two 0 2 (Or.inl rfl) (Or.inl rfl) (by omega) (by omega) (Or.inl m1)
    rw [if_neg m1]
    by_cases m2 : md = 2
    · rw [if_pos m2]
      split
      · rename_i hk
        have hs := hS.lt hi h0 (by rcases hk with q | q | q <;> (rw [q]; decide))
        have := lp 0 (fun Z => (opS (tK b n i), Int64.ofNat (X.length - 1), Z.length - 1)) (Or.inl rfl) (Or.inl m2) hs
        rw [m2] at this
        rw [m2]
        exact this
      · exact stay.resolve_right (by omega)
    rw [if_neg m2]
    by_cases m3 : md = 3
    · rw [if_pos m3]; exact two 1 4 (Or.inr rfl) (Or.inr rfl) (by omega) (by omega) (Or.inr m3)
    rw [if_neg m3]
    have m4 : md = 4 := by omega
    split
    · rename_i hk
      have hs := hS.lt hi h0 (by rcases hk with q | q <;> (rw [q]; decide))
      have := lp 1 (fun Z => (opS (tK b n i), Int64.ofNat (X.length - 1), Z.length - 1)) (Or.inr rfl) (Or.inr m4) hs
      rw [m4] at this
      rw [m4]
      exact this
    · exact stay.resolve_right (by omega)
end
section
/-! the class reads sums -/
def RI (b : Nat → Int32) (n s n0 : Nat) (sN : List Int64) (ro mx : List Int32) (vN : List Int64) (M : Mem) (i o : Nat) (u : Int32) (l : List Int32) (cc : Nat) : Prop := TI b n s M i o ∧ EnvC M n0 sN ro mx vN ∧ SumP M (n0 + 22) cc l ∧ (cc = n0 + 23 ∨ n0 + 25 ≤ cc) ∧ mI M 14 6 = u ∧ mR M 14 7 = some n0 ∧ 132 ≤ n0 ∧ n0 + 25 ≤ mN M
def RX (n0 : Nat) (sN : List Int64) (ro mx : List Int32) (vN : List Int64) (M : Mem) (f : Int32) (p : Nat) (l : List Int32) (cc : Nat) : Prop := TF M f p ∧ EnvC M n0 sN ro mx vN ∧ SumP M (n0 + 22) cc l ∧ (cc = n0 + 23 ∨ n0 + 25 ≤ cc) ∧ mR M 14 7 = some n0 ∧ 132 ≤ n0 ∧ n0 + 25 ≤ mN M
/-- what reading a sum may change; what it takes of the room -/
def SFm (n0 : Nat) (M M' : Mem) (cc : Nat) (l : List Int32) (cc' : Nat) (l' : List Int32) : Prop := fr (fun c => c = 14 ∨ c = 15 ∨ c = n0 + 22 ∨ c = cc) M M' ∧ (∀ f, f ≠ 6 → mI M' 14 f = mI M 14 f) ∧ mR M' 14 = mR M 14 ∧ mJ M' 14 = mJ M 14 ∧ mR M' 15 = mR M 15 ∧ (∀ f, f ≠ 1 → mI M' (n0 + 22) f = mI M (n0 + 22) f) ∧ (∀ f, f ≠ 0 → mR M' (n0 + 22) f = mR M (n0 + 22) f) ∧ mJ M' (n0 + 22) = mJ M (n0 + 22) ∧ mN M' + l.length ≤ mN M + l'.length ∧ mS M' + 2 * mL M cc = mS M + 2 * mL M' cc' ∧ (cc' = cc ∨ mN M ≤ cc')
theorem SFm.rf {n0 cc : Nat} {M : Mem} {l : List Int32} : SFm n0 M M cc l cc l := ⟨fr.rf, fun _ _ => rfl, rfl, rfl, rfl, fun _ _ => rfl, fun _ _ => rfl, rfl, Nat.le_refl _, rfl, Or.inl rfl⟩
theorem SFm.tr {n0 c0 c1 c2 : Nat} {M0 M1 M2 : Mem} {l0 l1 l2 : List Int32} (h : SFm n0 M0 M1 c0 l0 c1 l1) (k : SFm n0 M1 M2 c1 l1 c2 l2) : SFm n0 M0 M2 c0 l0 c2 l2 := by
  obtain ⟨a1, a2, a3, a4, a5, a6, a7, a8, a9, aA, aB⟩ := h
  obtain ⟨b1, b2, b3, b4, b5, b6, b7, b8, b9, bA, bB⟩ := k
  have hn := a1.1.1
  refine ⟨a1.tr b1 (fun a ha z => ?_), fun f q => (b2 f q).trans (a2 f q), b3.trans a3, b4.trans a4, b5.trans a5, fun f q => (b6 f q).trans (a6 f q), fun f q => (b7 f q).trans (a7 f q), b8.trans a8, by omega, by omega, ?_⟩
  · rcases z with z | z | z | z
    · exact Or.inl z
    · exact Or.inr (Or.inl z)
    · exact Or.inr (Or.inr (Or.inl z))
    · rcases aB with q | q
      · exact Or.inr (Or.inr (Or.inr (z.trans q)))
      · omega
  · rcases bB with q | q
    · rw [q]; exact aB
    · exact Or.inr (by omega)
theorem SFm.t {n0 cc : Nat} {M M' : Mem} {l : List Int32} (h : TFr M M') (hn : 132 ≤ n0) : SFm n0 M M' cc l cc l := by
  obtain ⟨a1, a2, a3, a4, a5, a6, a7, a8, a9⟩ := id h
  refine ⟨h.fr.more (fun a _ z => Or.inr (Or.inl z)), fun f _ => by rw [(a9 14 (by decide)).1], by rw [a5], (a9 14 (by decide)).2, by rw [a5], fun f _ => by rw [(a9 _ (by omega)).1], fun f _ => by rw [a5], (a9 _ (by omega)).2, by rw [a1]; exact Nat.le_refl _, by rw [a2, a4], Or.inl rfl⟩
theorem SFm.add {n0 cc cc' : Nat} {M M' : Mem} {l : List Int32} {x : Int32} (h : SumF M M' (n0 + 22) cc cc') (hn : 132 ≤ n0) (hc : cc = n0 + 23 ∨ n0 + 25 ≤ cc) (hm : 132 ≤ mN M) : SFm n0 M M' cc l cc' (l ++ [x]) := by
  obtain ⟨a1, a2, a3, a4, a5, a6, a7, a8⟩ := h
  have r14 := a1.2 14 (by omega) (by rintro (z | z) <;> omega)
  have r15 := a1.2 15 (by omega) (by rintro (z | z) <;> omega)
  refine ⟨a1.more (fun a _ z => Or.inr (Or.inr z)), fun f _ => by rw [r14.1], r14.2.2.1, r14.2.1, r15.2.2.1, a2, a3, a4, by rw [List.length_append]; show mN M' + l.length ≤ mN M + (l.length + 1); omega, a6, ?_⟩
  rcases a7 with q | q
  · exact Or.inl q
  · exact Or.inr (by omega)
theorem SumP.fr {M M' : Mem} {sc cc : Nat} {l : List Int32} (h : SumP M sc cc l) (hE : mE M M') (h1 : sameRow M M' sc) (h2 : sameRow M M' cc) : SumP M' sc cc l := by
  obtain ⟨a1, a2, a3, a4, a5, a6, a7, a8⟩ := h
  have e := (hE.2.2 cc a3.1).2
  exact ⟨ok_E a1 hE, by rw [h1.2.2.1]; exact a2, ok_E a3 hE, by rw [h1.1]; exact a4, by rw [e]; exact a5, by rw [e]; exact a6, by rw [e]; exact a7, fun j hj => by rw [h2.2.2.2.1]; exact a8 j hj⟩
section
variable {b : Nat → Int32} {n s n0 : Nat} {sN : List Int64} {ro mx : List Int32} {vN : List Int64} {M M' : Mem} {i o i' o' : Nat} {u : Int32} {l : List Int32} {cc cc' : Nat} {f : Int32} {p : Nat}
theorem EnvC.t (h : EnvC M n0 sN ro mx vN) (k : TFr M M') (hn : 132 ≤ n0) : EnvC M' n0 sN ro mx vN := h.fr k.e (fun a h1 h2 => by
  have q := k.2.2.2.2.2.2.2.2 a (by omega)
  exact ⟨q.1, q.2, by rw [k.2.2.2.2.1], by rw [k.2.2.2.2.2.1], by rw [k.2.2.2.2.2.2.1], by rw [k.2.2.2.2.2.2.2.1]⟩)
theorem TFr.row {a : Nat} (k : TFr M M') (ha : a ≠ 15) : sameRow M M' a := ⟨(k.2.2.2.2.2.2.2.2 a ha).1, (k.2.2.2.2.2.2.2.2 a ha).2, by rw [k.2.2.2.2.1], by rw [k.2.2.2.2.2.1], by rw [k.2.2.2.2.2.2.1], by rw [k.2.2.2.2.2.2.2.1]⟩
theorem RI.t (h : RI b n s n0 sN ro mx vN M i o u l cc) (k : TFr M M') (hT : TI b n s M' i' o') : RI b n s n0 sN ro mx vN M' i' o' u l cc := by
  obtain ⟨h1, h2, h3, h4, h5, h6, h7, h8⟩ := h
  exact ⟨hT, h2.t k h7, h3.fr k.e (k.row (by omega)) (k.row (by omega)), h4, by rw [(k.2.2.2.2.2.2.2.2 14 (by decide)).1]; exact h5, by rw [k.2.2.2.2.1]; exact h6, h7, by rw [k.1]; exact h8⟩
theorem RI.x (h : RI b n s n0 sN ro mx vN M i o u l cc) (k : TFr M M') (hT : TF M' f p) : RX n0 sN ro mx vN M' f p l cc := by
  obtain ⟨h1, h2, h3, h4, h5, h6, h7, h8⟩ := h
  exact ⟨hT, h2.t k h7, h3.fr k.e (k.row (by omega)) (k.row (by omega)), h4, by rw [k.2.2.2.2.1]; exact h6, h7, by rw [k.1]; exact h8⟩
theorem RX.t (h : RX n0 sN ro mx vN M f p l cc) (k : TFr M M') (hT : TF M' f p) : RX n0 sN ro mx vN M' f p l cc := by
  obtain ⟨h1, h2, h3, h4, h6, h7, h8⟩ := h
  exact ⟨hT, h2.t k h7, h3.fr k.e (k.row (by omega)) (k.row (by omega)), h4, by rw [k.2.2.2.2.1]; exact h6, h7, by rw [k.1]; exact h8⟩
theorem Fix.sum (F : Fix M) (h : fr (fun c => c = n0 + 22 ∨ c = cc) M M') (hn : 132 ≤ n0) (hc : cc = n0 + 23 ∨ n0 + 25 ≤ cc) : Fix M' := by
  have hm := F.1
  refine F.of_fr (S := fun _ => True) h.1 (fun e he => ?_) ?_
  · have := tRS_lt e he
    rw [(h.2 e.1 (by omega) (by rintro (z | z) <;> omega)).2.2.1]
  · exact (h.2 19 (by omega) (by rintro (z | z) <;> omega)).2.2.2.2.1
theorem RI.add {x : Int32} (h : RI b n s n0 sN ro mx vN M i o u l cc) (hP : SumP M' (n0 + 22) cc' (l ++ [x])) (hF : SumF M M' (n0 + 22) cc cc') : RI b n s n0 sN ro mx vN M' i o u (l ++ [x]) cc' := by
  obtain ⟨h1, h2, h3, h4, h5, h6, h7, h8⟩ := h
  have hm := h1.1.1
  have F' := h1.1.sum hF.1 h7 h4
  have row : ∀ a, a < 132 → sameRow M M' a := fun a ha => hF.1.2 a (by omega) (by rintro (z | z) <;> omega)
  refine ⟨h1.fr F' (row 15 (by decide)).1 (row 15 (by decide)).2.1 (row 16 (by decide)).2.2.2.1 (row 17 (by decide)).2.2.2.1 (row 18 (by decide)).2.2.2.2.1, h2.fr hF.1.1 (fun a q1 q2 => hF.1.2 a (by omega) (by rintro (z | z) <;> omega)), hP, ?_, by rw [(row 14 (by decide)).1]; exact h5, by rw [(row 14 (by decide)).2.2.1]; exact h6, h7, Nat.le_trans h8 hF.1.1.1⟩
  rcases hF.2.2.2.2.2.2.1 with q | q
  · rw [q]; exact h4
  · exact Or.inr (by omega)
theorem RX.add {x : Int32} (h : RX n0 sN ro mx vN M f p l cc) (hP : SumP M' (n0 + 22) cc' (l ++ [x])) (hF : SumF M M' (n0 + 22) cc cc') : RX n0 sN ro mx vN M' f p (l ++ [x]) cc' := by
  obtain ⟨h1, h2, h3, h4, h6, h7, h8⟩ := h
  have hm := h1.1.1
  have F' := h1.1.sum hF.1 h7 h4
  have row : ∀ a, a < 132 → sameRow M M' a := fun a ha => hF.1.2 a (by omega) (by rintro (z | z) <;> omega)
  refine ⟨h1.fr F' (row 15 (by decide)).1, h2.fr hF.1.1 (fun a q1 q2 => hF.1.2 a (by omega) (by rintro (z | z) <;> omega)), hP, ?_, by rw [(row 14 (by decide)).2.2.1]; exact h6, h7, Nat.le_trans h8 hF.1.1.1⟩
  rcases hF.2.2.2.2.2.2.1 with q | q
  · rw [q]; exact h4
  · exact Or.inr (by omega)
variable {h : Nat} {Q : Option Value → Mem → Prop}
theorem A_add {x : Int32} (hR : RI b n s n0 sN ro mx vN M i o u l cc) (hl : l.length < 30000) (H : ∀ M' cc', RI b n s n0 sN ro mx vN M' i o u (l ++ [x]) cc' → SFm n0 M M' cc l cc' (l ++ [x]) → Q none M') : E (h + 3) mdX6_add [.ref (n0 + 22), .int x] M Q :=
  S_sumAdd hR.2.2.1 (by rcases hR.2.2.2.1 with z | z <;> omega) hl (fun M' cc' hP hF => H M' cc' (hR.add hP hF) (SFm.add hF hR.2.2.2.2.2.2.1 hR.2.2.2.1 hR.1.1.1))
theorem X_add {x : Int32} (hR : RX n0 sN ro mx vN M f p l cc) (hl : l.length < 30000) (H : ∀ M' cc', RX n0 sN ro mx vN M' f p (l ++ [x]) cc' → SFm n0 M M' cc l cc' (l ++ [x]) → Q none M') : E (h + 3) mdX6_add [.ref (n0 + 22), .int x] M Q :=
  S_sumAdd hR.2.2.1 (by rcases hR.2.2.2.1 with z | z <;> omega) hl (fun M' cc' hP hF => H M' cc' (hR.add hP hF) (SFm.add hF hR.2.2.2.2.2.1 hR.2.2.2.1 hR.1.1.1))
theorem A_addW {x y : Int32} (hR : RI b n s n0 sN ro mx vN M i o u l cc) (hl : l.length < 29000) (H : ∀ M' cc', RI b n s n0 sN ro mx vN M' i o u (l ++ [x, y]) cc' → SFm n0 M M' cc l cc' (l ++ [x, y]) → Q none M') : E (h + 4) mdX6_addWith [.ref (n0 + 22), .int x, .int y] M Q := by
  refine KX6_addWith ?_
  unfold DX6_addWith_0
  refine ⟨hR.2.2.1.1, A_add hR (by omega) (fun M1 c1 R1 F1 _ => ⟨rfl, A_add R1 (by rw [List.length_append]; show l.length + 1 < _; omega) (fun M2 c2 R2 F2 _ => ⟨rfl, ?_⟩)⟩)⟩
  have e : l ++ [x] ++ [y] = l ++ [x, y] := by rw [List.append_assoc]; rfl
  rw [e] at R2 F2
  exact H M2 c2 R2 (F1.tr F2)
theorem X_addW {x y : Int32} (hR : RX n0 sN ro mx vN M f p l cc) (hl : l.length < 29000) (H : ∀ M' cc', RX n0 sN ro mx vN M' f p (l ++ [x, y]) cc' → SFm n0 M M' cc l cc' (l ++ [x, y]) → Q none M') : E (h + 4) mdX6_addWith [.ref (n0 + 22), .int x, .int y] M Q := by
  refine KX6_addWith ?_
  unfold DX6_addWith_0
  refine ⟨hR.2.2.1.1, X_add hR (by omega) (fun M1 c1 R1 F1 _ => ⟨rfl, X_add R1 (by rw [List.length_append]; show l.length + 1 < _; omega) (fun M2 c2 R2 F2 _ => ⟨rfl, ?_⟩)⟩)⟩
  have e : l ++ [x] ++ [y] = l ++ [x, y] := by rw [List.append_assoc]; rfl
  rw [e] at R2 F2
  exact H M2 c2 R2 (F1.tr F2)
/-- the word that stands: its content -/
theorem TI.word (hT : TI b n s M i o) (hB : By b) (hk : tK b n i = 2) : mJ M 15 11 = tC b n i := by
  have w := name_WD hB hk
  exact hT.2.2.2.2.2.2.2.1 w.1 (Or.inl w.2.1)
theorem TI.number (hT : TI b n s M i o) (hB : By b) (hk : tK b n i = 3) : mJ M 15 11 = tC b n i := by
  have w := num_val2 hB hk
  exact hT.2.2.2.2.2.2.2.1 w.1 (Or.inr w.2.1)
theorem TI.kind (hT : TI b n s M i o) : mI M 15 9 = tK b n i := hT.2.2.2.2.2.1
theorem wI14 {v : Int32} (hR : RI b n s n0 sN ro mx vN M i o u l cc) : RI b n s n0 sN ro mx vN (wI M 14 6 v) i o v l cc ∧ SFm n0 M (wI M 14 6 v) cc l cc l := by
  obtain ⟨h1, h2, h3, h4, h5, h6, h7, h8⟩ := hR
  have row : ∀ a, a ≠ 14 → sameRow M (wI M 14 6 v) a := fun a ha => ⟨up2_row ha, rfl, rfl, rfl, rfl, rfl⟩
  refine ⟨⟨h1.fr h1.1.i (row 15 (by decide)).1 rfl rfl rfl rfl, h2.fr mE_wI (fun a q1 q2 => row a (by omega)), h3.fr mE_wI (row _ (by omega)) (row _ (by omega)), h4, mI_own _ _ _ _, h6, h7, h8⟩, (fr_wI (S := fun c => c = 14 ∨ c = 15 ∨ c = n0 + 22 ∨ c = cc) (Or.inl rfl)), fun f hf => by rw [mI_wI, if_neg (fun z => hf z.2)], rfl, rfl, rfl, fun f _ => by rw [(row (n0 + 22) (by omega)).1], fun _ _ => rfl, rfl, Nat.le_refl _, rfl, Or.inl rfl⟩
theorem A_usedVar (hR : RI b n s n0 sN ro mx vN M i o u l cc) (hB : By b) (hk : tK b n i = 2) (H1 : ∀ k, fd vN (tC b n i) = some k → ∀ M', RI b n s n0 sN ro mx vN M' i o (u ||| ((1 : Int32) <<< (Int32.ofNat k &&& 31))) l cc → SFm n0 M M' cc l cc l → Q (some (.int (Int32.ofNat k))) M') (H0 : fd vN (tC b n i) = none → ∀ M', RX n0 sN ro mx vN M' 4 (tP b n i) l cc → SFm n0 M M' cc l cc l → Q (some (.int (-1))) M') : E (h + 2) mdX4_usedVariable [.ref 14] M Q := by
  obtain ⟨h1, h2, h3, h4, h5, h6, h7, h8⟩ := id hR
  have F := h1.1
  refine KX4_usedVariable ?_
  unfold DX4_usedVariable_0
  refine ⟨ok14 F, n0, h6, 15, rf14_0 F, ok15 F, h2.1, ?_⟩
  rw [h1.word hB hk]
  refine S_varNamed h2 (fun _ => ⟨_, rfl, fun hc M8 e8 => ?_, fun hc => ?_⟩)
  · cases e : fd vN (tC b n i) with
    | none => rw [e] at hc; exact absurd rfl hc
    | some k =>
      rw [e, h5] at e8
      rw [e8]
      have q := wI14 (v := u ||| ((1 : Int32) <<< (Int32.ofNat k &&& 31))) hR
      exact H1 k e _ q.1 q.2
  · cases e : fd vN (tC b n i) with
    | none => exact ⟨15, rf14_0 F, ok15 F, A_fail h1 (by decide) (fun M' hT' hF' _ => ⟨rfl, H0 e M' (hR.x hF' hT') (SFm.t hF' h7)⟩)⟩
    | some k =>
      rw [e] at hc
      exact absurd hc (oi_ne (by have := (fd_some e).1; have := h2.2.1.2.2.2; omega))
theorem A_toldSig (hR : RI b n s n0 sN ro mx vN M i o u l cc) (hB : By b) (H1 : tK b n i = 2 → ∀ k, fd sN (tC b n i) = some k → Q (some (.int (Int32.ofNat k))) M) (H0 : tK b n i = 2 → fd sN (tC b n i) = none → ∀ M', RX n0 sN ro mx vN M' 4 (tP b n i) l cc → TFr M M' → Q (some (.int (-1))) M') (H2 : tK b n i ≠ 2 → ∀ M', RX n0 sN ro mx vN M' 2 (tP b n i) l cc → TFr M M' → Q (some (.int (-1))) M') : E (h + 2) mdX4_toldSignal [.ref 14] M Q := by
  obtain ⟨h1, h2, h3, h4, h5, h6, h7, h8⟩ := id hR
  have F := h1.1
  refine KX4_toldSignal ?_
  unfold DX4_toldSignal_0 DX4_toldSignal_49
  refine ⟨ok14 F, 15, rf14_0 F, ok15 F, fun hk => ?_, fun hk => ?_⟩
  · rw [h1.kind] at hk
    refine ⟨n0, h6, 15, rf14_0 F, ok15 F, h2.1, ?_⟩
    rw [h1.word hB hk]
    refine S_sigNamed h2 (fun _ => ⟨_, rfl, fun hc => ?_, fun hc => ?_⟩)
    · cases e : fd sN (tC b n i) with
      | none => rw [e] at hc; exact absurd rfl hc
      | some k => exact H1 hk k e
    · cases e : fd sN (tC b n i) with
      | none => exact ⟨15, rf14_0 F, ok15 F, A_fail h1 (by decide) (fun M' hT' hF' _ => ⟨rfl, H0 hk e M' (hR.x hF' hT') hF'⟩)⟩
      | some k =>
        rw [e] at hc
        exact absurd hc (oi_ne (by have := (fd_some e).1; have := h2.2.1.1; omega))
  · rw [h1.kind] at hk
    exact ⟨15, rf14_0 F, ok15 F, A_fail h1 (by decide) (fun M' hT' hF' _ => ⟨rfl, H2 hk M' (hR.x hF' hT') hF'⟩)⟩
theorem X_toldSig (hR : RX n0 sN ro mx vN M f p l cc) (H : Q (some (.int (-1))) M) : E (h + 2) mdX4_toldSignal [.ref 14] M Q := by
  have F := hR.1.1
  refine KX4_toldSignal ?_
  unfold DX4_toldSignal_0
  refine ⟨ok14 F, 15, rf14_0 F, ok15 F, fun hk => ?_, fun hk => ⟨15, rf14_0 F, ok15 F, F_fail hR.1 (fun _ => ⟨rfl, H⟩)⟩⟩
  rw [hR.1.2.2.2.2.2] at hk
  exact absurd hk (by decide)
theorem A_asked (hR : RI b n s n0 sN ro mx vN M i o u l cc) (hB : By b) (H1 : tK b n i = 2 → ∀ k, fd sN (tC b n i) = some k → mx.getD k 0 ≠ 0 → Q (some (.int (Int32.ofNat k))) M) (H0 : tK b n i = 2 → (fd sN (tC b n i) = none ∨ ∃ k, fd sN (tC b n i) = some k ∧ mx.getD k 0 = 0) → ∀ M' v, RX n0 sN ro mx vN M' 4 (tP b n i) l cc → TFr M M' → Q (some (.int v)) M') (H2 : tK b n i ≠ 2 → ∀ M' v, RX n0 sN ro mx vN M' 2 (tP b n i) l cc → TFr M M' → Q (some (.int v)) M') : E (h + 3) mdX4_askedSignal [.ref 14] M Q := by
  obtain ⟨h1, h2, h3, h4, h5, h6, h7, h8⟩ := id hR
  have F := h1.1
  refine KX4_askedSignal ?_
  unfold DX4_askedSignal_0 DX4_askedSignal_30
  refine ⟨ok14 F, A_toldSig hR hB (fun hk k e _ => ⟨_, rfl, fun hc => ?_, fun _ => ?_⟩) (fun hk e M' hX hF _ => ⟨_, rfl, fun _ => H0 hk (Or.inl e) M' _ hX hF, fun hc => absurd rfl hc⟩) (fun hk M' hX hF _ => ⟨_, rfl, fun _ => H2 hk M' _ hX hF, fun hc => absurd rfl hc⟩)⟩
  · exact absurd hc (oi_ne (by have := (fd_some e).1; have := h2.2.1.1; omega))
  · obtain ⟨-, hlen, -, -, -, -, -, -, h27, ⟨c1, c2, c3⟩, -⟩ := h2
    have hkl := (fd_some e).1
    refine ⟨n0, h6, hR.2.1.1, n0 + 3, h27, c1, by rw [c2]; exact vp_of (by omega) (by decide), ?_, ?_⟩
    · rw [lt32 (by omega), c3 k hkl]
      exact fun hm => H1 hk k e hm
    · rw [lt32 (by omega), c3 k hkl]
      exact fun hm => ⟨15, rf14_0 F, ok15 F, A_fail h1 (by decide) (fun M' hT' hF' _ => ⟨rfl, H0 hk (Or.inr ⟨k, e, hm⟩) M' _ (hR.x hF' hT') hF'⟩)⟩
theorem X_asked (hR : RX n0 sN ro mx vN M f p l cc) (H : Q (some (.int (-1))) M) : E (h + 3) mdX4_askedSignal [.ref 14] M Q := by
  refine KX4_askedSignal ?_
  unfold DX4_askedSignal_0 DX4_askedSignal_30
  exact ⟨ok14 hR.1.1, X_toldSig hR (fun _ => ⟨_, rfl, fun _ => H, fun hc => absurd rfl hc⟩)⟩
end
end
section
/-! the class reads sums: readOne, readTimes, readSum against rd -/
section
variable {b : Nat → Int32} {n s n0 : Nat} {sN : List Int64} {ro mx : List Int32} {vN : List Int64} {h : Nat} {Q : Option Value → Mem → Prop}
theorem X_one {M : Mem} {f : Int32} {p : Nat} {l : List Int32} {cc : Nat} (hR : RX n0 sN ro mx vN M f p l cc) (H : Q none M) : E (h + 2) mdX4_readOne [.ref 14] M Q := by
  have F := hR.1.1
  have k := hR.1.2.2.2.2.2
  refine KX4_readOne ?_
  unfold DX4_readOne_0 DX4_readOne_210
  refine ⟨ok14 F, 15, rf14_0 F, ok15 F, fun hc => absurd (k ▸ hc) (by decide), fun hc => absurd (k ▸ hc) (by decide), fun hc => absurd (k ▸ hc) (by decide), fun hc => absurd (k ▸ hc) (by decide), fun hc => absurd (k ▸ hc) (by decide), fun _ => ⟨15, rf14_0 F, ok15 F, F_fail hR.1 (fun _ => ⟨rfl, H⟩)⟩⟩
theorem X_timesL {M : Mem} {f : Int32} {p c : Nat} {l : List Int32} {cc : Nat} (hR : RX n0 sN ro mx vN M f p l cc) (H : Q none M) : T (h + 1) mdX4_readTimes 6 [(0, .ref 14), (1, .int (Int32.ofNat c))] [] M Q := by
  have F := hR.1.1
  have k := hR.1.2.2.2.2.2
  refine VX4_readTimes_6 ?_
  unfold DX4_readTimes_6
  refine ⟨fun _ => H, fun _ => ⟨ok14 F, 15, rf14_0 F, ok15 F, fun hc => absurd (k ▸ hc) (by decide), fun _ => ⟨fun hc => absurd (k ▸ hc) (by decide), fun _ => ⟨fun hc => absurd (k ▸ hc) (by decide), fun _ => H⟩⟩⟩⟩
theorem X_times {M : Mem} {f : Int32} {p : Nat} {l : List Int32} {cc : Nat} (hR : RX n0 sN ro mx vN M f p l cc) (H : Q none M) : E (h + 3) mdX4_readTimes [.ref 14] M Q := by
  refine KX4_readTimes ?_
  unfold DX4_readTimes_0
  exact ⟨ok14 hR.1.1, X_one hR (fun _ => ⟨rfl, X_timesL (c := 0) hR H⟩)⟩
theorem X_sumL {M : Mem} {f : Int32} {p c : Nat} {l : List Int32} {cc : Nat} (hR : RX n0 sN ro mx vN M f p l cc) (H : Q none M) : T (h + 1) mdX4_readSum 6 [(0, .ref 14), (1, .int (Int32.ofNat c))] [] M Q := by
  have F := hR.1.1
  have k := hR.1.2.2.2.2.2
  refine VX4_readSum_6 ?_
  unfold DX4_readSum_6
  refine ⟨fun _ => H, fun _ => ⟨ok14 F, 15, rf14_0 F, ok15 F, fun hc => absurd (k ▸ hc) (by decide), fun _ => ⟨fun hc => absurd (k ▸ hc) (by decide), fun _ => H⟩⟩⟩
theorem X_sum {M : Mem} {f : Int32} {p : Nat} {l : List Int32} {cc : Nat} (hR : RX n0 sN ro mx vN M f p l cc) (H : Q none M) : E (h + 4) mdX4_readSum [.ref 14] M Q := by
  refine KX4_readSum ?_
  unfold DX4_readSum_0
  exact ⟨ok14 hR.1.1, X_times hR (fun _ => ⟨rfl, X_sumL (c := 0) hR H⟩)⟩
theorem n64_32 {k : Nat} (h : k < 1000) : (Int64.ofNat k).toInt32 = Int32.ofNat k := by
  refine Int32.toInt_inj.mp ?_
  rw [Int64.toInt_toInt32, Int64.toInt_ofNat_of_lt (by omega), ti32 (by omega), Int.bmod_def]
  omega
theorem X_brk {M : Mem} {f : Int32} {p : Nat} {l : List Int32} {cc : Nat} (hR : RX n0 sN ro mx vN M f p l cc) (H : ∀ M', RX n0 sN ro mx vN M' f p l cc → TFr M M' → Q none M') : DX4_readInBrackets_28 (h + 2) 14 M Q := by
  unfold DX4_readInBrackets_28
  have F := hR.1.1
  exact ⟨ok14 F, 15, rf14_0 F, ok15 F, F_expect hR.1 (by decide) (fun _ => ⟨rfl, 15, rf14_0 F, ok15 F, F_closes hR.1 (fun M' T' F' _ => ⟨rfl, H M' (hR.t F' T') F'⟩)⟩)⟩
theorem X_neg {M : Mem} {f : Int32} {p : Nat} {l : List Int32} {cc : Nat} (hR : RX n0 sN ro mx vN M f p l cc) (hl : l.length < 29000) (H : ∀ M' cc', RX n0 sN ro mx vN M' f p (l ++ [4]) cc' → SFm n0 M M' cc l cc' (l ++ [4]) → Q none M') : DX4_readOne_174 (h + 3) 14 M Q := by
  unfold DX4_readOne_174 DX4_readOne_210
  have F := hR.1.1
  refine ⟨ok14 F, 15, rf14_0 F, ok15 F, F_closes hR.1 (fun M1 T1 F1 _ => ⟨rfl, ?_⟩)⟩
  have R1 := hR.t F1 T1
  exact ⟨n0, R1.2.2.2.2.1, R1.2.1.1, n0 + 22, R1.2.1.2.2.2.2.2.2.2.2.2.2.2.2, R1.2.2.1.1, X_add R1 (by omega) (fun M2 c2 R2 F2 _ => ⟨rfl, H M2 c2 R2 ((SFm.t F1 hR.2.2.2.2.2.1).tr F2)⟩)⟩
/-- the ends of a reading: Q behind a good one, and behind a fault -/
def EndS (b : Nat → Int32) (n s n0 : Nat) (sN : List Int64) (ro mx : List Int32) (vN : List Int64) (M : Mem) (i o : Nat) (X : List Nd) (l : List Int32) (cc : Nat) (Q : Option Value → Mem → Prop) (R : Except (Int32 × Nat) (Nat × List Nd × Int32)) : Prop := match R with
  | .ok r => ∀ M' cc', RI b n s n0 sN ro mx vN M' r.1 o r.2.2 (l ++ cdL (r.2.1.drop X.length)) cc' → SFm n0 M M' cc l cc' (l ++ cdL (r.2.1.drop X.length)) → Q none M'
  | .error e => ∀ M' cc' l', RX n0 sN ro mx vN M' e.1 e.2 l' cc' → l'.length ≤ l.length + 4 * (s + 1 - i) + 4 * (16 - o) → SFm n0 M M' cc l cc' l' → Q none M'
theorem C_rd (hB : By b) (hS : Sto b n s) : ∀ (g : Nat),
    (∀ (M : Mem) (i o : Nat) (X : List Nd) (u : Int32) (l : List Int32) (cc H : Nat) (Q : Option Value → Mem → Prop), 6 * (s + 1 - i) ≤ g → 6 + 4 * (16 - o) ≤ H → o ≤ 15 → l.length + 4 * (s + 1 - i) + 4 * (16 - o) ≤ 20000 → RI b n s n0 sN ro mx vN M i o u l cc → EndS b n s n0 sN ro mx vN M i o X l cc Q (rd b n sN mx vN g 0 i o X u) → E H mdX4_readOne [.ref 14] M Q) ∧
    (∀ (M : Mem) (i o : Nat) (X : List Nd) (u : Int32) (l : List Int32) (cc H : Nat) (Q : Option Value → Mem → Prop), 6 * (s + 1 - i) + 1 ≤ g → 7 + 4 * (16 - o) ≤ H → o ≤ 15 → l.length + 4 * (s + 1 - i) + 4 * (16 - o) ≤ 20000 → RI b n s n0 sN ro mx vN M i o u l cc → EndS b n s n0 sN ro mx vN M i o X l cc Q (rd b n sN mx vN g 1 i o X u) → E H mdX4_readTimes [.ref 14] M Q) ∧
    (∀ (M : Mem) (i o c : Nat) (X : List Nd) (u : Int32) (l : List Int32) (cc H : Nat) (Q : Option Value → Mem → Prop), 6 * (s + 1 - i) + 2 ≤ g → 7 + 4 * (16 - o) ≤ H → o ≤ 15 → 2 * c ≤ i → l.length + 4 * (s + 1 - i) + 4 * (16 - o) ≤ 20000 → RI b n s n0 sN ro mx vN M i o u l cc → EndS b n s n0 sN ro mx vN M i o X l cc Q (rd b n sN mx vN g 2 i o X u) → T H mdX4_readTimes 6 [(0, .ref 14), (1, .int (Int32.ofNat c))] [] M Q) ∧
    (∀ (M : Mem) (i o : Nat) (X : List Nd) (u : Int32) (l : List Int32) (cc H : Nat) (Q : Option Value → Mem → Prop), 6 * (s + 1 - i) + 3 ≤ g → 8 + 4 * (16 - o) ≤ H → o ≤ 15 → l.length + 4 * (s + 1 - i) + 4 * (16 - o) ≤ 20000 → RI b n s n0 sN ro mx vN M i o u l cc → EndS b n s n0 sN ro mx vN M i o X l cc Q (rd b n sN mx vN g 3 i o X u) → E H mdX4_readSum [.ref 14] M Q) ∧
    (∀ (M : Mem) (i o c : Nat) (X : List Nd) (u : Int32) (l : List Int32) (cc H : Nat) (Q : Option Value → Mem → Prop), 6 * (s + 1 - i) + 4 ≤ g → 8 + 4 * (16 - o) ≤ H → o ≤ 15 → 2 * c ≤ i → l.length + 4 * (s + 1 - i) + 4 * (16 - o) ≤ 20000 → RI b n s n0 sN ro mx vN M i o u l cc → EndS b n s n0 sN ro mx vN M i o X l cc Q (rd b n sN mx vN g 4 i o X u) → T H mdX4_readSum 6 [(0, .ref 14), (1, .int (Int32.ofNat c))] [] M Q) := by
  intro g
  induction g with
  | zero =>
    refine ⟨?_, ?_, ?_, ?_, ?_⟩
    · intro M i o X u l cc H Q hg _ _ _ hR _; have := hR.1.2.1; omega
    · intro M i o X u l cc H Q hg _ _ _ hR _; have := hR.1.2.1; omega
    · intro M i o c X u l cc H Q hg _ _ _ _ hR _; have := hR.1.2.1; omega
    · intro M i o X u l cc H Q hg _ _ _ hR _; have := hR.1.2.1; omega
    · intro M i o c X u l cc H Q hg _ _ _ _ hR _; have := hR.1.2.1; omega
  | succ g ih =>
    obtain ⟨ih0, ih1, ih2, ih3, ih4⟩ := ih
    refine ⟨?_, ?_, ?_, ?_, ?_⟩
    · intro M i o X u l cc H Q hg hh ho hl hR hE
      obtain ⟨H', rfl⟩ : ∃ H', H = H' + 5 + 1 := ⟨H - 6, by omega⟩
      obtain ⟨h1, h2, h3, h4, h5, h6, h7, h8⟩ := id hR
      have F := h1.1
      have hi := h1.2.1
      have h0 := h1.2.2.2.2.2.2.2.2.2
      refine KX4_readOne ?_
      unfold DX4_readOne_0 DX4_readOne_210 DX4_readOne_174
      unfold rd at hE
      rw [if_pos rfl] at hE
      refine ⟨ok14 F, 15, rf14_0 F, ok15 F, fun hk => ?_, fun hk => ?_, fun hk => ?_, fun hk => ?_, fun hk => ?_, fun hk => ?_⟩
      all_goals rw [h1.kind] at hk
      · have n3 : ¬ tK b n i = 3 := by rw [hk]; decide
        rw [if_neg n3, if_pos hk] at hE
        have hs := hS.lt hi.2.2 h0 (by rw [hk]; decide)
        refine A_usedVar hR hB hk (fun k e M1 R1 F1 _ => ⟨_, rfl, n0, R1.2.2.2.2.2.1, R1.2.1.1, n0 + 22, R1.2.1.2.2.2.2.2.2.2.2.2.2.2.2, R1.2.2.1.1, A_addW R1 (by omega) (fun M2 c2 R2 F2 _ => ⟨rfl, 15, rf14_0 R2.1.1, ok15 R2.1.1, A_adv R2.1 hs (fun k1 M3 T3 F3 _ => ⟨rfl, ?_⟩) (fun k1 M3 T3 F3 _ => ⟨rfl, ?_⟩)⟩)⟩) (fun e M1 X1 F1 _ => ⟨_, rfl, n0, X1.2.2.2.2.1, X1.2.1.1, n0 + 22, X1.2.1.2.2.2.2.2.2.2.2.2.2.2.2, X1.2.2.1.1, X_addW X1 (by omega) (fun M2 c2 X2 F2 _ => ⟨rfl, 15, rf14_0 X2.1.1, ok15 X2.1.1, F_adv X2.1 (fun _ => ⟨rfl, ?_⟩)⟩)⟩)
        · rw [e] at hE
          have e2 : adv' b n i = .ok (i + 1) := by unfold adv'; rw [if_neg k1]
          rw [e2] at hE
          have R3 := R2.t F3 T3
          have e3 : (X ++ [((1 : Nat), Int64.ofNat k, (0 : Nat))]).drop X.length = [(1, Int64.ofNat k, 0)] := List.drop_left
          have e4 : cdL [((1 : Nat), Int64.ofNat k, (0 : Nat))] = [2, Int32.ofNat k] := by
            have hkl := (fd_some e).1
            have := h2.2.1.2.2.2
            show [2, (Int64.ofNat k).toInt32] = _
            rw [n64_32 (by omega)]
          refine hE M3 c2 ?_ ?_
          · show RI b n s n0 sN ro mx vN M3 (i + 1) o _ (l ++ cdL ((X ++ [(1, Int64.ofNat k, 0)]).drop X.length)) c2
            rw [e3, e4]; exact R3
          · show SFm n0 M M3 cc l c2 (l ++ cdL ((X ++ [(1, Int64.ofNat k, 0)]).drop X.length))
            rw [e3, e4]; exact (F1.tr F2).tr (SFm.t F3 h7)
        · rw [e] at hE
          have e2 : adv' b n i = .error (1, tP b n (i + 1)) := by unfold adv'; rw [if_pos k1]
          rw [e2] at hE
          exact hE M3 c2 _ (R2.x F3 T3) (by rw [List.length_append]; show l.length + 2 ≤ _; omega) ((F1.tr F2).tr (SFm.t F3 h7))
        · rw [e] at hE
          exact hE M2 c2 _ X2 (by rw [List.length_append]; show l.length + 2 ≤ _; omega) (F1.tr F2)
      · rw [if_pos hk] at hE
        have hs := hS.lt hi.2.2 h0 (by rw [hk]; decide)
        refine ⟨n0, h6, h2.1, n0 + 22, h2.2.2.2.2.2.2.2.2.2.2.2.2, 15, rf14_0 F, ok15 F, h3.1, ?_⟩
        rw [h1.number hB hk]
        refine A_addW hR (by omega) (fun M2 c2 R2 F2 _ => ⟨rfl, 15, rf14_0 R2.1.1, ok15 R2.1.1, A_adv R2.1 hs (fun k1 M3 T3 F3 _ => ⟨rfl, ?_⟩) (fun k1 M3 T3 F3 _ => ⟨rfl, ?_⟩)⟩)
        · have e2 : adv' b n i = .ok (i + 1) := by unfold adv'; rw [if_neg k1]
          rw [e2] at hE
          have R3 := R2.t F3 T3
          have e3 : (X ++ [((0 : Nat), tC b n i, (0 : Nat))]).drop X.length = [(0, tC b n i, 0)] := List.drop_left
          refine hE M3 c2 ?_ ?_
          · show RI b n s n0 sN ro mx vN M3 (i + 1) o _ (l ++ cdL ((X ++ [(0, tC b n i, 0)]).drop X.length)) c2
            rw [e3]; exact R3
          · show SFm n0 M M3 cc l c2 (l ++ cdL ((X ++ [(0, tC b n i, 0)]).drop X.length))
            rw [e3]; exact F2.tr (SFm.t F3 h7)
        · have e2 : adv' b n i = .error (1, tP b n (i + 1)) := by unfold adv'; rw [if_pos k1]
          rw [e2] at hE
          exact hE M3 c2 _ (R2.x F3 T3) (by rw [List.length_append]; show l.length + 2 ≤ _; omega) (F2.tr (SFm.t F3 h7))
      · -- a bracket
        have n3 : ¬ tK b n i = 3 := by rw [hk]; decide
        have n2 : ¬ tK b n i = 2 := by rw [hk]; decide
        have n19 : ¬ tK b n i = 19 := by rw [hk]; decide
        have n21 : ¬ tK b n i = 21 := by rw [hk]; decide
        rw [if_neg n3, if_neg n2, if_neg n19, if_neg n21, if_pos hk] at hE
        have hs := hS.lt hi.2.2 h0 (by rw [hk]; decide)
        refine KX4_readInBrackets ?_
        unfold DX4_readInBrackets_0
        have bad : ∀ (M1 : Mem) (e : Int32 × Nat) (c1 : Nat) (l1 : List Int32), RX n0 sN ro mx vN M1 e.1 e.2 l1 c1 → SFm n0 M M1 cc l c1 l1 → (∀ M' , RX n0 sN ro mx vN M' e.1 e.2 l1 c1 → SFm n0 M M' cc l c1 l1 → Q none M') → DX4_readInBrackets_28 (H' + 4) 14 M1 (fun r M24 => mE M M24 → r = none ∧ Q none M24) := by
          intro M1 e c1 l1 X1 F1 K
          exact X_brk X1 (fun M' X' F' _ => ⟨rfl, K M' X' (F1.tr (SFm.t F' h7))⟩)
        refine ⟨ok14 F, 15, rf14_0 F, ok15 F, A_opens h1 ho (fun h15 M1 T1 F1 _ => ⟨rfl, 15, rf14_0 T1.1, ok15 T1.1, ?_⟩) (fun h15 M1 T1 F1 _ => ⟨rfl, 15, rf14_0 T1.1, ok15 T1.1, F_adv T1 (fun _ => ⟨rfl, 15, rf14_0 T1.1, ok15 T1.1, fun _ => ?_, fun hc => absurd (T1.2.2.1 ▸ hc) (by decide)⟩)⟩)⟩
        · rw [if_neg (by omega : ¬ o = 15)] at hE
          refine A_adv T1 hs (fun k1 M2 T2 F2 _ => ⟨rfl, 15, rf14_0 T2.1, ok15 T2.1, fun hc => absurd T2.2.2.2.2.2.2.2.2.1 hc, fun _ => ?_⟩) (fun k1 M2 T2 F2 _ => ⟨rfl, 15, rf14_0 T2.1, ok15 T2.1, fun _ => ?_, fun hc => absurd (T2.2.2.1 ▸ hc) (by decide)⟩)
          · have e2 : adv' b n i = .ok (i + 1) := by unfold adv'; rw [if_neg k1]
            rw [e2] at hE
            have hE : EndS b n s n0 sN ro mx vN M i o X l cc Q ((rd b n sN mx vN g 3 (i + 1) (o + 1) X u).bind fun r => if tK b n r.1 = 16 then (adv' b n r.1).bind fun j' => .ok (j', r.2) else .error (2, tP b n r.1)) := hE
            have R2 := hR.t (F1.tr F2) T2
            have G2 : SFm n0 M M2 cc l cc l := SFm.t (F1.tr F2) h7
            refine ih3 M2 (i + 1) (o + 1) X u l cc (H' + 4) _ (by omega) (by omega) (by omega) (by omega) R2 ?_
            have hok := rd_ok (sN := sN) (mx := mx) (vN := vN) hS g 3 (i + 1) (o + 1) X u (by decide) (by omega) k1
            generalize rd b n sN mx vN g 3 (i + 1) (o + 1) X u = R at hE hok
            cases R with
            | error e =>
              intro M3 c3 l3 X3 hlen F3
              refine fun _ => ⟨rfl, bad M3 e c3 l3 X3 (G2.tr F3) (fun M' X' F' => hE M' c3 l3 X' (by omega) F')⟩
            | ok r =>
              obtain ⟨a1, a2, a3, ⟨Y, a4, a5⟩, -⟩ := hok
              have ed : r.2.1.drop X.length = Y := by rw [a4]; exact List.drop_left
              intro M3 c3 R3 F3
              refine fun _ => ⟨rfl, ?_⟩
              have hE : EndS b n s n0 sN ro mx vN M i o X l cc Q (if tK b n r.1 = 16 then (adv' b n r.1).bind fun j' => .ok (j', r.2) else .error (2, tP b n r.1)) := hE
              have hlc := @cdL_len Y
              unfold DX4_readInBrackets_28
              have FF := R3.1.1
              refine ⟨ok14 FF, 15, rf14_0 FF, ok15 FF, A_expect R3.1 (by decide) (fun q1 q2 M4 T4 F4 _ => ⟨rfl, 15, rf14_0 T4.1, ok15 T4.1, A_closes T4 (by omega) (fun M5 T5 F5 _ => ⟨rfl, fun _ => ⟨rfl, ?_⟩⟩)⟩) (fun q1 q2 M4 T4 F4 _ => ⟨rfl, 15, rf14_0 T4.1, ok15 T4.1, F_closes T4 (fun M5 T5 F5 _ => ⟨rfl, fun _ => ⟨rfl, ?_⟩⟩)⟩) (fun q1 M4 T4 F4 _ => ⟨rfl, 15, rf14_0 T4.1, ok15 T4.1, F_closes T4 (fun M5 T5 F5 _ => ⟨rfl, fun _ => ⟨rfl, ?_⟩⟩)⟩) hS.2.2.1⟩
              · rw [if_pos q1] at hE
                have e5 : adv' b n r.1 = .ok (r.1 + 1) := by unfold adv'; rw [if_neg q2]
                rw [e5] at hE
                exact hE M5 c3 (R3.t (F4.tr F5) T5) ((G2.tr F3).tr (SFm.t (F4.tr F5) h7))
              · rw [if_pos q1] at hE
                have e5 : adv' b n r.1 = .error (1, tP b n (r.1 + 1)) := by unfold adv'; rw [if_pos q2]
                rw [e5] at hE
                refine hE M5 c3 _ (R3.x (F4.tr F5) T5) ?_ ((G2.tr F3).tr (SFm.t (F4.tr F5) h7))
                rw [List.length_append, ed]; omega
              · rw [if_neg q1] at hE
                refine hE M5 c3 _ (R3.x (F4.tr F5) T5) ?_ ((G2.tr F3).tr (SFm.t (F4.tr F5) h7))
                rw [List.length_append, ed]; omega
          · have e2 : adv' b n i = .error (1, tP b n (i + 1)) := by unfold adv'; rw [if_pos k1]
            rw [e2] at hE
            exact bad M2 (1, tP b n (i + 1)) cc l (hR.x (F1.tr F2) T2) (SFm.t (F1.tr F2) h7) (fun M' X' F' => hE M' cc l X' (by omega) F')
        · rw [if_pos h15] at hE
          exact bad M1 (6, tP b n i) cc l (hR.x F1 T1) (SFm.t F1 h7) (fun M' X' F' => hE M' cc l X' (by omega) F')
      · -- the number of a signal
        have n3 : ¬ tK b n i = 3 := by rw [hk]; decide
        have n2 : ¬ tK b n i = 2 := by rw [hk]; decide
        rw [if_neg n3, if_neg n2, if_pos hk] at hE
        have hs := hS.lt hi.2.2 h0 (by rw [hk]; decide)
        have tail : ∀ (M1 : Mem) (e : Int32 × Nat) (v : Int32), RX n0 sN ro mx vN M1 e.1 e.2 l cc → SFm n0 M M1 cc l cc l → EndS b n s n0 sN ro mx vN M i o X l cc Q (.error e) → ∃ b30 : Nat, mR M1 14 7 = some b30 ∧ ok M1 b30 3 ∧ ∃ b32 : Nat, mR M1 b30 8 = some b32 ∧ ok M1 b32 8 ∧ E (H' + 5) mdX6_addWith [.ref b32, .int 3, .int v] M1 (fun r M34 => mE M1 M34 → r = none ∧ ∃ b35 : Nat, mR M34 14 0 = some b35 ∧ ok M34 b35 9 ∧ E (H' + 5) mdX7_advance [.ref b35] M34 (fun r M37 => mE M34 M37 → r = none ∧ Q none M37)) := by
          intro M1 e v X1 F1 hE
          exact ⟨n0, X1.2.2.2.2.1, X1.2.1.1, n0 + 22, X1.2.1.2.2.2.2.2.2.2.2.2.2.2.2, X1.2.2.1.1, X_addW X1 (by omega) (fun M2 c2 X2 F2 _ => ⟨rfl, 15, rf14_0 X2.1.1, ok15 X2.1.1, F_adv X2.1 (fun _ => ⟨rfl, hE M2 c2 _ X2 (by rw [List.length_append]; show l.length + 2 ≤ _; omega) (F1.tr F2)⟩)⟩)⟩
        refine ⟨15, rf14_0 F, ok15 F, A_adv h1 hs (fun k1 M1 T1 F1 _ => ⟨rfl, ?_⟩) (fun k1 M1 T1 F1 _ => ⟨rfl, ?_⟩)⟩
        · have e2 : adv' b n i = .ok (i + 1) := by unfold adv'; rw [if_neg k1]
          rw [e2] at hE
          have hE : EndS b n s n0 sN ro mx vN M i o X l cc Q (if tK b n (i + 1) = 2 then (match fd sN (tC b n (i + 1)) with
            | none => .error (4, tP b n (i + 1))
            | some k => if mx.getD k 0 = 0 then .error (4, tP b n (i + 1)) else (adv' b n (i + 1)).bind fun j' => .ok (j', X ++ [(2, Int64.ofNat k, 0)], u))
            else .error (2, tP b n (i + 1))) := hE
          have R1 := hR.t F1 T1
          refine A_asked R1 hB (fun q k e hm _ => ⟨_, rfl, ?_⟩) (fun q e M2 v X2 F2 _ => ⟨_, rfl, ?_⟩) (fun q M2 v X2 F2 _ => ⟨_, rfl, ?_⟩)
          · rw [if_pos q, e] at hE
            have hE : EndS b n s n0 sN ro mx vN M i o X l cc Q (if mx.getD k 0 = 0 then .error (4, tP b n (i + 1)) else (adv' b n (i + 1)).bind fun j' => .ok (j', X ++ [(2, Int64.ofNat k, 0)], u)) := hE
            rw [if_neg hm] at hE
            have hs2 := hS.lt hs k1 (by rw [q]; decide)
            refine ⟨n0, R1.2.2.2.2.2.1, R1.2.1.1, n0 + 22, R1.2.1.2.2.2.2.2.2.2.2.2.2.2.2, R1.2.2.1.1, A_addW R1 (by omega) (fun M2 c2 R2 F2 _ => ⟨rfl, 15, rf14_0 R2.1.1, ok15 R2.1.1, A_adv R2.1 hs2 (fun k2 M3 T3 F3 _ => ⟨rfl, ?_⟩) (fun k2 M3 T3 F3 _ => ⟨rfl, ?_⟩)⟩)⟩
            · have e5 : adv' b n (i + 1) = .ok (i + 1 + 1) := by unfold adv'; rw [if_neg k2]
              rw [e5] at hE
              have R3 := R2.t F3 T3
              have e3 : (X ++ [((2 : Nat), Int64.ofNat k, (0 : Nat))]).drop X.length = [(2, Int64.ofNat k, 0)] := List.drop_left
              have e4 : cdL [((2 : Nat), Int64.ofNat k, (0 : Nat))] = [3, Int32.ofNat k] := by
                have hkl := (fd_some e).1
                have := h2.2.1.1
                show [3, (Int64.ofNat k).toInt32] = _
                rw [n64_32 (by omega)]
              refine hE M3 c2 ?_ ?_
              · show RI b n s n0 sN ro mx vN M3 (i + 1 + 1) o _ (l ++ cdL ((X ++ [(2, Int64.ofNat k, 0)]).drop X.length)) c2
                rw [e3, e4]; exact R3
              · show SFm n0 M M3 cc l c2 (l ++ cdL ((X ++ [(2, Int64.ofNat k, 0)]).drop X.length))
                rw [e3, e4]; exact ((SFm.t F1 h7).tr F2).tr (SFm.t F3 h7)
            · have e5 : adv' b n (i + 1) = .error (1, tP b n (i + 1 + 1)) := by unfold adv'; rw [if_pos k2]
              rw [e5] at hE
              exact hE M3 c2 _ (R2.x F3 T3) (by rw [List.length_append]; show l.length + 2 ≤ _; omega) (((SFm.t F1 h7).tr F2).tr (SFm.t F3 h7))
          · refine tail M2 (4, tP b n (i + 1)) v X2 (SFm.t (F1.tr F2) h7) ?_
            rw [if_pos q] at hE
            rcases e with e | ⟨k, e, hm⟩
            · rw [e] at hE; exact hE
            · rw [e] at hE
              have hE : EndS b n s n0 sN ro mx vN M i o X l cc Q (if mx.getD k 0 = 0 then .error (4, tP b n (i + 1)) else (adv' b n (i + 1)).bind fun j' => .ok (j', X ++ [(2, Int64.ofNat k, 0)], u)) := hE
              rw [if_pos hm] at hE
              exact hE
          · rw [if_neg q] at hE
            exact tail M2 (2, tP b n (i + 1)) v X2 (SFm.t (F1.tr F2) h7) hE
        · have e2 : adv' b n i = .error (1, tP b n (i + 1)) := by unfold adv'; rw [if_pos k1]
          rw [e2] at hE
          exact X_asked (hR.x F1 T1) (fun _ => ⟨_, rfl, tail M1 (1, tP b n (i + 1)) _ (hR.x F1 T1) (SFm.t F1 h7) hE⟩)
      · -- a negative
        have n3 : ¬ tK b n i = 3 := by rw [hk]; decide
        have n2 : ¬ tK b n i = 2 := by rw [hk]; decide
        have n19 : ¬ tK b n i = 19 := by rw [hk]; decide
        rw [if_neg n3, if_neg n2, if_neg n19, if_pos hk] at hE
        have hs := hS.lt hi.2.2 h0 (by rw [hk]; decide)
        have bad : ∀ (M1 : Mem) (e : Int32 × Nat) (c1 : Nat) (l1 : List Int32), RX n0 sN ro mx vN M1 e.1 e.2 l1 c1 → SFm n0 M M1 cc l c1 l1 → l1.length + 1 ≤ l.length + 4 * (s + 1 - i) + 4 * (16 - o) → EndS b n s n0 sN ro mx vN M i o X l cc Q (.error e) → DX4_readOne_174 (H' + 5) 14 M1 Q := by
          intro M1 e c1 l1 X1 F1 hlen hE
          exact X_neg X1 (by omega) (fun M' c' X' F' => hE M' c' _ X' (by rw [List.length_append]; exact hlen) (F1.tr F'))
        refine ⟨15, rf14_0 F, ok15 F, A_opens h1 ho (fun h15 M1 T1 F1 _ => ⟨rfl, 15, rf14_0 T1.1, ok15 T1.1, ?_⟩) (fun h15 M1 T1 F1 _ => ⟨rfl, 15, rf14_0 T1.1, ok15 T1.1, F_adv T1 (fun _ => ⟨rfl, 15, rf14_0 T1.1, ok15 T1.1, fun _ => ?_, fun hc => absurd (T1.2.2.1 ▸ hc) (by decide)⟩)⟩)⟩
        · rw [if_neg (by omega : ¬ o = 15)] at hE
          refine A_adv T1 hs (fun k1 M2 T2 F2 _ => ⟨rfl, 15, rf14_0 T2.1, ok15 T2.1, fun hc => absurd T2.2.2.2.2.2.2.2.2.1 hc, fun _ => ?_⟩) (fun k1 M2 T2 F2 _ => ⟨rfl, 15, rf14_0 T2.1, ok15 T2.1, fun _ => ?_, fun hc => absurd (T2.2.2.1 ▸ hc) (by decide)⟩)
          · have e2 : adv' b n i = .ok (i + 1) := by unfold adv'; rw [if_neg k1]
            rw [e2] at hE
            have hE : EndS b n s n0 sN ro mx vN M i o X l cc Q ((rd b n sN mx vN g 0 (i + 1) (o + 1) X u).bind fun r => .ok (r.1, r.2.1 ++ [(3, Int64.ofNat (r.2.1.length - 1), 0)], r.2.2)) := hE
            have R2 := hR.t (F1.tr F2) T2
            have G2 : SFm n0 M M2 cc l cc l := SFm.t (F1.tr F2) h7
            refine ih0 M2 (i + 1) (o + 1) X u l cc (H' + 5) _ (by omega) (by omega) (by omega) (by omega) R2 ?_
            have hok := rd_ok (sN := sN) (mx := mx) (vN := vN) hS g 0 (i + 1) (o + 1) X u (by decide) (by omega) k1
            generalize rd b n sN mx vN g 0 (i + 1) (o + 1) X u = R at hE hok
            cases R with
            | error e =>
              intro M3 c3 l3 X3 hlen F3
              exact fun _ => ⟨rfl, bad M3 e c3 l3 X3 (G2.tr F3) (by omega) hE⟩
            | ok r =>
              obtain ⟨a1, a2, a3, ⟨Y, a4, a5⟩, -⟩ := hok
              have ed : r.2.1.drop X.length = Y := by rw [a4]; exact List.drop_left
              have ed2 : (r.2.1 ++ [((3 : Nat), Int64.ofNat (r.2.1.length - 1), (0 : Nat))]).drop X.length = Y ++ [(3, Int64.ofNat (r.2.1.length - 1), 0)] := by
                rw [a4, List.append_assoc]; exact List.drop_left
              have hlc := @cdL_len Y
              intro M3 c3 R3 F3
              refine fun _ => ⟨rfl, ?_⟩
              unfold DX4_readOne_210
              have FF := R3.1.1
              refine ⟨ok14 FF, 15, rf14_0 FF, ok15 FF, A_closes R3.1 (by omega) (fun M4 T4 F4 _ => ⟨rfl, ?_⟩)⟩
              have R4 := R3.t F4 T4
              refine ⟨n0, R4.2.2.2.2.2.1, R4.2.1.1, n0 + 22, R4.2.1.2.2.2.2.2.2.2.2.2.2.2.2, R4.2.2.1.1, A_add R4 (by rw [List.length_append, ed]; omega) (fun M5 c5 R5 F5 _ => ⟨rfl, ?_⟩)⟩
              have ec : l ++ cdL (r.2.1.drop X.length) ++ [4] = l ++ cdL ((r.2.1 ++ [((3 : Nat), Int64.ofNat (r.2.1.length - 1), (0 : Nat))]).drop X.length) := by
                rw [ed, ed2, cdL_app, List.append_assoc]; rfl
              rw [ec] at R5 F5
              exact hE M5 c5 R5 (((G2.tr F3).tr (SFm.t F4 h7)).tr F5)
          · have e2 : adv' b n i = .error (1, tP b n (i + 1)) := by unfold adv'; rw [if_pos k1]
            rw [e2] at hE
            exact bad M2 (1, tP b n (i + 1)) cc l (hR.x (F1.tr F2) T2) (SFm.t (F1.tr F2) h7) (by omega) hE
        · rw [if_pos h15] at hE
          exact bad M1 (6, tP b n i) cc l (hR.x F1 T1) (SFm.t F1 h7) (by omega) hE
      · obtain ⟨k2, k3, k15, k19, k21⟩ := hk
        rw [if_neg k3, if_neg k2, if_neg k19, if_neg k21, if_neg k15] at hE
        exact ⟨15, rf14_0 F, ok15 F, A_fail h1 (by decide) (fun M1 T1 F1 _ => ⟨rfl, hE M1 cc l (hR.x F1 T1) (by omega) (SFm.t F1 h7)⟩)⟩
    · intro M i o X u l cc H Q hg hh ho hl hR hE
      obtain ⟨H', rfl⟩ : ∃ H', H = H' + 6 + 1 := ⟨H - 7, by omega⟩
      have F := hR.1.1
      have hi := hR.1.2.1
      have h0 := hR.1.2.2.2.2.2.2.2.2.2
      refine KX4_readTimes ?_
      unfold DX4_readTimes_0
      unfold rd at hE
      rw [if_neg (by decide), if_pos rfl] at hE
      refine ⟨ok14 F, ih0 M i o X u l cc (H' + 6) _ (by omega) (by omega) ho hl hR ?_⟩
      have hok := rd_ok (sN := sN) (mx := mx) (vN := vN) hS g 0 i o X u (by decide) hi.2.2 h0
      generalize rd b n sN mx vN g 0 i o X u = R at hE hok
      cases R with
      | error e =>
        intro M3 c3 l3 X3 hlen F3
        exact fun _ => ⟨rfl, X_timesL (c := 0) X3 (hE M3 c3 l3 X3 hlen F3)⟩
      | ok r =>
        obtain ⟨a1, a2, a3, ⟨Y, a4, a5⟩, a6⟩ := hok
        have a6 := (a6 (by decide)).1
        have ed : r.2.1.drop X.length = Y := by rw [a4]; exact List.drop_left
        have hlc := @cdL_len Y
        intro M3 c3 R3 F3
        refine fun _ => ⟨rfl, ih2 M3 r.1 o 0 r.2.1 r.2.2 _ c3 (H' + 6 + 1) _ (by omega) (by omega) ho (by omega) (by rw [List.length_append, ed]; omega) R3 ?_⟩
        have hE : EndS b n s n0 sN ro mx vN M i o X l cc Q (rd b n sN mx vN g 2 r.1 o r.2.1 r.2.2) := hE
        have hok2 := rd_ok (sN := sN) (mx := mx) (vN := vN) hS g 2 r.1 o r.2.1 r.2.2 (by decide) a2 a3
        generalize rd b n sN mx vN g 2 r.1 o r.2.1 r.2.2 = R2 at hE hok2
        cases R2 with
        | error e =>
          intro M4 c4 l4 X4 hlen F4
          refine hE M4 c4 l4 X4 ?_ (F3.tr F4)
          rw [List.length_append, ed] at hlen
          omega
        | ok r2 =>
          obtain ⟨b1, b2, b3, ⟨Z, b4, b5⟩, -⟩ := hok2
          have ez : r2.2.1.drop r.2.1.length = Z := by rw [b4]; exact List.drop_left
          have ex : r2.2.1.drop X.length = Y ++ Z := by rw [b4, a4, List.append_assoc]; exact List.drop_left
          intro M4 c4 R4 F4
          have ec : l ++ cdL (r.2.1.drop X.length) ++ cdL (r2.2.1.drop r.2.1.length) = l ++ cdL (r2.2.1.drop X.length) := by
            rw [ed, ez, ex, cdL_app, List.append_assoc]
          rw [ec] at R4 F4
          exact hE M4 c4 R4 (F3.tr F4)
    · intro M i o c X u l cc H Q hg hh ho hc hl hR hE
      obtain ⟨H', rfl⟩ : ∃ H', H = H' + 6 + 1 := ⟨H - 7, by omega⟩
      obtain ⟨h1, h2, h3, h4, h5, h6, h7, h8⟩ := id hR
      have F := h1.1
      have hi := h1.2.1
      have h0 := h1.2.2.2.2.2.2.2.2.2
      have hn := hS.2.1
      refine VX4_readTimes_6 ?_
      unfold DX4_readTimes_6 DX4_readTimes_40
      unfold rd at hE
      rw [if_neg (by decide), if_neg (by decide), if_pos rfl] at hE
      have go : ∀ (v : Int32), ((7 : Int32) + tK b n i) - 22 = v → cdN (opS (tK b n i), Int64.ofNat (X.length - 1), 0) = [v] → (tK b n i = 22 ∨ tK b n i = 23 ∨ tK b n i = 24) → ok M 14 6 ∧ ∃ b2 : Nat, mR M 14 0 = some b2 ∧ ok M b2 9 ∧ E (H' + 6) mdX7_advance [.ref b2] M (fun r M4 => mE M M4 → r = none ∧ E (H' + 6) mdX4_readOne [.ref 14] M4 (fun r M5 => mE M4 M5 → r = none ∧ ∃ b6 : Nat, mR M5 14 7 = some b6 ∧ ok M5 b6 3 ∧ ∃ b8 : Nat, mR M5 b6 8 = some b8 ∧ ok M5 b8 8 ∧ E (H' + 6) mdX6_add [.ref b8, .int ((7 + (mI M 15 9)) - 22)] M5 (fun r M10 => mE M5 M10 → r = none ∧ T (H' + 6 + 1) mdX4_readTimes 6 [(0, .ref 14), (1, .int (Int32.ofNat c + 1))] [] M10 Q))) := by
        intro v ev ecd hk
        rw [if_pos hk] at hE
        rw [h1.kind, ev, succ32]
        have hs := hS.lt hi.2.2 h0 (by rcases hk with q | q | q <;> (rw [q]; decide))
        have bad : ∀ (M1 : Mem) (e : Int32 × Nat) (c1 : Nat) (l1 : List Int32), RX n0 sN ro mx vN M1 e.1 e.2 l1 c1 → SFm n0 M M1 cc l c1 l1 → l1.length + 1 ≤ l.length + 4 * (s + 1 - i) + 4 * (16 - o) → EndS b n s n0 sN ro mx vN M i o X l cc Q (.error e) → ∃ b6 : Nat, mR M1 14 7 = some b6 ∧ ok M1 b6 3 ∧ ∃ b8 : Nat, mR M1 b6 8 = some b8 ∧ ok M1 b8 8 ∧ E (H' + 6) mdX6_add [.ref b8, .int v] M1 (fun r M10 => mE M1 M10 → r = none ∧ T (H' + 6 + 1) mdX4_readTimes 6 [(0, .ref 14), (1, .int (Int32.ofNat (c + 1)))] [] M10 Q) := by
          intro M1 e c1 l1 X1 F1 hlen hE
          exact ⟨n0, X1.2.2.2.2.1, X1.2.1.1, n0 + 22, X1.2.1.2.2.2.2.2.2.2.2.2.2.2.2, X1.2.2.1.1, X_add X1 (by omega) (fun M2 c2 X2 F2 _ => ⟨rfl, X_timesL X2 (hE M2 c2 _ X2 (by rw [List.length_append]; exact hlen) (F1.tr F2))⟩)⟩
        refine ⟨ok14 F, 15, rf14_0 F, ok15 F, A_adv h1 hs (fun k1 M1 T1 F1 _ => ⟨rfl, ?_⟩) (fun k1 M1 T1 F1 _ => ⟨rfl, ?_⟩)⟩
        · have e2 : adv' b n i = .ok (i + 1) := by unfold adv'; rw [if_neg k1]
          rw [e2] at hE
          have hE : EndS b n s n0 sN ro mx vN M i o X l cc Q ((rd b n sN mx vN g 0 (i + 1) o X u).bind fun r => rd b n sN mx vN g 2 r.1 o (r.2.1 ++ [(opS (tK b n i), Int64.ofNat (X.length - 1), r.2.1.length - 1)]) r.2.2) := hE
          have R1 := hR.t F1 T1
          refine ih0 M1 (i + 1) o X u l cc (H' + 6) _ (by omega) (by omega) ho (by omega) R1 ?_
          have hok := rd_ok (sN := sN) (mx := mx) (vN := vN) hS g 0 (i + 1) o X u (by decide) (by omega) k1
          generalize rd b n sN mx vN g 0 (i + 1) o X u = R at hE hok
          cases R with
          | error e =>
            intro M3 c3 l3 X3 hlen F3
            exact fun _ => ⟨rfl, bad M3 e c3 l3 X3 ((SFm.t F1 h7).tr F3) (by omega) hE⟩
          | ok r =>
            obtain ⟨a1, a2, a3, ⟨Y, a4, a5⟩, a6⟩ := hok
            have a6 := (a6 (by decide)).1
            have ed : r.2.1.drop X.length = Y := by rw [a4]; exact List.drop_left
            have hlc := @cdL_len Y
            intro M3 c3 R3 F3
            refine fun _ => ⟨rfl, n0, R3.2.2.2.2.2.1, R3.2.1.1, n0 + 22, R3.2.1.2.2.2.2.2.2.2.2.2.2.2.2, R3.2.2.1.1, A_add R3 (by rw [List.length_append, ed]; omega) (fun M4 c4 R4 F4 _ => ⟨rfl, ?_⟩)⟩
            have hE : EndS b n s n0 sN ro mx vN M i o X l cc Q (rd b n sN mx vN g 2 r.1 o (r.2.1 ++ [(opS (tK b n i), Int64.ofNat (X.length - 1), r.2.1.length - 1)]) r.2.2) := hE
            have ecd2 : cdN (opS (tK b n i), Int64.ofNat (X.length - 1), r.2.1.length - 1) = [v] := ecd
            refine ih2 M4 r.1 o (c + 1) (r.2.1 ++ [(opS (tK b n i), Int64.ofNat (X.length - 1), r.2.1.length - 1)]) r.2.2 _ c4 (H' + 6 + 1) _ (by omega) (by omega) ho (by omega) (by rw [List.length_append, List.length_append, ed]; show l.length + (cdL Y).length + 1 + _ + _ ≤ _; omega) R4 ?_
            have hok2 := rd_ok (sN := sN) (mx := mx) (vN := vN) hS g 2 r.1 o (r.2.1 ++ [(opS (tK b n i), Int64.ofNat (X.length - 1), r.2.1.length - 1)]) r.2.2 (by decide) a2 a3
            generalize hnd : ((opS (tK b n i), Int64.ofNat (X.length - 1), r.2.1.length - 1) : Nd) = nd at hE hok2 ecd2 ⊢
            generalize rd b n sN mx vN g 2 r.1 o (r.2.1 ++ [nd]) r.2.2 = R2 at hE hok2
            cases R2 with
            | error e =>
              intro M5 c5 l5 X5 hlen F5
              refine hE M5 c5 l5 X5 ?_ ((((SFm.t F1 h7).tr F3).tr F4).tr F5)
              rw [List.length_append, List.length_append, ed] at hlen
              have hlen : l5.length ≤ l.length + (cdL Y).length + 1 + 4 * (s + 1 - r.1) + 4 * (16 - o) := hlen
              omega
            | ok r2 =>
              obtain ⟨b1, b2, b3, ⟨Z, b4, b5⟩, -⟩ := hok2
              have ez : r2.2.1.drop (r.2.1 ++ [nd]).length = Z := by rw [b4]; exact List.drop_left
              have ex : r2.2.1.drop X.length = Y ++ ([nd] ++ Z) := by rw [b4, a4]; simp only [List.append_assoc]; exact List.drop_left
              intro M5 c5 R5 F5
              have ec : l ++ cdL (r.2.1.drop X.length) ++ [v] ++ cdL (r2.2.1.drop (r.2.1 ++ [nd]).length) = l ++ cdL (r2.2.1.drop X.length) := by
                have e1 : cdL [nd] = [v] := by show cdN nd ++ [] = _; rw [ecd2]; rfl
                rw [ed, ez, ex, cdL_app, cdL_app, e1]; simp only [List.append_assoc]
              rw [ec] at R5 F5
              exact hE M5 c5 R5 ((((SFm.t F1 h7).tr F3).tr F4).tr F5)
        · have e2 : adv' b n i = .error (1, tP b n (i + 1)) := by unfold adv'; rw [if_pos k1]
          rw [e2] at hE
          exact X_one (hR.x F1 T1) (fun _ => ⟨rfl, bad M1 (1, tP b n (i + 1)) cc l (hR.x F1 T1) (SFm.t F1 h7) (by omega) hE⟩)
      refine ⟨fun hx => absurd ((le32 (a := 800) (b := c) (by decide) (by omega)).mp hx) (by omega), fun _ => ⟨ok14 F, 15, rf14_0 F, ok15 F, fun q => ?_, fun q1 => ⟨fun q => ?_, fun q2 => ⟨fun q => ?_, fun q3 => ?_⟩⟩⟩⟩
      · rw [h1.kind] at q
        exact go 7 (by rw [q]; decide) (by rw [q]; rfl) (Or.inl q)
      · rw [h1.kind] at q
        exact go 8 (by rw [q]; decide) (by rw [q]; rfl) (Or.inr (Or.inl q))
      · rw [h1.kind] at q
        exact go 9 (by rw [q]; decide) (by rw [q]; rfl) (Or.inr (Or.inr q))
      · rw [h1.kind] at q1 q2 q3
        rw [if_neg (by rintro (z | z | z); exact q1 z; exact q2 z; exact q3 z)] at hE
        have ed : X.drop X.length = [] := List.drop_length
        refine hE M cc ?_ ?_
        · show RI b n s n0 sN ro mx vN M i o u (l ++ cdL (X.drop X.length)) cc
          rw [ed]; show RI b n s n0 sN ro mx vN M i o u (l ++ []) cc
          rw [List.append_nil]; exact hR
        · show SFm n0 M M cc l cc (l ++ cdL (X.drop X.length))
          rw [ed]; show SFm n0 M M cc l cc (l ++ [])
          rw [List.append_nil]; exact SFm.rf
    · intro M i o X u l cc H Q hg hh ho hl hR hE
      obtain ⟨H', rfl⟩ : ∃ H', H = H' + 7 + 1 := ⟨H - 8, by omega⟩
      have F := hR.1.1
      have hi := hR.1.2.1
      have h0 := hR.1.2.2.2.2.2.2.2.2.2
      refine KX4_readSum ?_
      unfold DX4_readSum_0
      unfold rd at hE
      rw [if_neg (by decide), if_neg (by decide), if_neg (by decide), if_pos rfl] at hE
      refine ⟨ok14 F, ih1 M i o X u l cc (H' + 7) _ (by omega) (by omega) ho hl hR ?_⟩
      have hok := rd_ok (sN := sN) (mx := mx) (vN := vN) hS g 1 i o X u (by decide) hi.2.2 h0
      generalize rd b n sN mx vN g 1 i o X u = R at hE hok
      cases R with
      | error e =>
        intro M3 c3 l3 X3 hlen F3
        exact fun _ => ⟨rfl, X_sumL (c := 0) X3 (hE M3 c3 l3 X3 hlen F3)⟩
      | ok r =>
        obtain ⟨a1, a2, a3, ⟨Y, a4, a5⟩, a6⟩ := hok
        have a6 := (a6 (by decide)).1
        have ed : r.2.1.drop X.length = Y := by rw [a4]; exact List.drop_left
        have hlc := @cdL_len Y
        intro M3 c3 R3 F3
        refine fun _ => ⟨rfl, ih4 M3 r.1 o 0 r.2.1 r.2.2 _ c3 (H' + 7 + 1) _ (by omega) (by omega) ho (by omega) (by rw [List.length_append, ed]; omega) R3 ?_⟩
        have hE : EndS b n s n0 sN ro mx vN M i o X l cc Q (rd b n sN mx vN g 4 r.1 o r.2.1 r.2.2) := hE
        have hok2 := rd_ok (sN := sN) (mx := mx) (vN := vN) hS g 4 r.1 o r.2.1 r.2.2 (by decide) a2 a3
        generalize rd b n sN mx vN g 4 r.1 o r.2.1 r.2.2 = R2 at hE hok2
        cases R2 with
        | error e =>
          intro M4 c4 l4 X4 hlen F4
          refine hE M4 c4 l4 X4 ?_ (F3.tr F4)
          rw [List.length_append, ed] at hlen
          omega
        | ok r2 =>
          obtain ⟨b1, b2, b3, ⟨Z, b4, b5⟩, -⟩ := hok2
          have ez : r2.2.1.drop r.2.1.length = Z := by rw [b4]; exact List.drop_left
          have ex : r2.2.1.drop X.length = Y ++ Z := by rw [b4, a4, List.append_assoc]; exact List.drop_left
          intro M4 c4 R4 F4
          have ec : l ++ cdL (r.2.1.drop X.length) ++ cdL (r2.2.1.drop r.2.1.length) = l ++ cdL (r2.2.1.drop X.length) := by
            rw [ed, ez, ex, cdL_app, List.append_assoc]
          rw [ec] at R4 F4
          exact hE M4 c4 R4 (F3.tr F4)
    · intro M i o c X u l cc H Q hg hh ho hc hl hR hE
      obtain ⟨H', rfl⟩ : ∃ H', H = H' + 7 + 1 := ⟨H - 8, by omega⟩
      obtain ⟨h1, h2, h3, h4, h5, h6, h7, h8⟩ := id hR
      have F := h1.1
      have hi := h1.2.1
      have h0 := h1.2.2.2.2.2.2.2.2.2
      have hn := hS.2.1
      refine VX4_readSum_6 ?_
      unfold DX4_readSum_6 DX4_readSum_34 DX4_readSum_64
      unfold rd at hE
      rw [if_neg (by decide), if_neg (by decide), if_neg (by decide), if_neg (by decide)] at hE
      have go : ∀ (v : Int32), (tK b n i = 20 → v = 5) → (¬ tK b n i = 20 → v = 6) → cdN (opS (tK b n i), Int64.ofNat (X.length - 1), 0) = [v] → (tK b n i = 20 ∨ tK b n i = 21) → ok M 14 6 ∧ ∃ b2 : Nat, mR M 14 0 = some b2 ∧ ok M b2 9 ∧ E (H' + 7) mdX7_advance [.ref b2] M (fun r M4 => mE M M4 → r = none ∧ E (H' + 7) mdX4_readTimes [.ref 14] M4 (fun r M5 => mE M4 M5 → r = none ∧ ∃ b6 : Nat, mR M5 14 7 = some b6 ∧ ok M5 b6 3 ∧ ∃ b8 : Nat, mR M5 b6 8 = some b8 ∧ (¬ mI M 15 9 = 20 → ok M5 b8 8 ∧ E (H' + 7) mdX6_add [.ref b8, .int 6] M5 (fun r M2 => mE M5 M2 → r = none ∧ T (H' + 7 + 1) mdX4_readSum 6 [(0, .ref 14), (1, .int (Int32.ofNat c + 1))] [] M2 Q)) ∧ (mI M 15 9 = 20 → ok M5 b8 8 ∧ E (H' + 7) mdX6_add [.ref b8, .int 5] M5 (fun r M2 => mE M5 M2 → r = none ∧ T (H' + 7 + 1) mdX4_readSum 6 [(0, .ref 14), (1, .int (Int32.ofNat c + 1))] [] M2 Q)))) := by
        intro v ev5 ev6 ecd hk
        rw [if_pos hk] at hE
        rw [h1.kind, succ32]
        have hs := hS.lt hi.2.2 h0 (by rcases hk with q | q <;> (rw [q]; decide))
        have sel : ∀ (M1 : Mem) (b8 : Nat), (ok M1 b8 8 ∧ E (H' + 7) mdX6_add [.ref b8, .int v] M1 (fun r M2 => mE M1 M2 → r = none ∧ T (H' + 7 + 1) mdX4_readSum 6 [(0, .ref 14), (1, .int (Int32.ofNat (c + 1)))] [] M2 Q)) → (¬ tK b n i = 20 → ok M1 b8 8 ∧ E (H' + 7) mdX6_add [.ref b8, .int 6] M1 (fun r M2 => mE M1 M2 → r = none ∧ T (H' + 7 + 1) mdX4_readSum 6 [(0, .ref 14), (1, .int (Int32.ofNat (c + 1)))] [] M2 Q)) ∧ (tK b n i = 20 → ok M1 b8 8 ∧ E (H' + 7) mdX6_add [.ref b8, .int 5] M1 (fun r M2 => mE M1 M2 → r = none ∧ T (H' + 7 + 1) mdX4_readSum 6 [(0, .ref 14), (1, .int (Int32.ofNat (c + 1)))] [] M2 Q)) := by
          intro M1 b8 K
          exact ⟨fun q => by rw [← ev6 q]; exact K, fun q => by rw [← ev5 q]; exact K⟩
        have bad : ∀ (M1 : Mem) (e : Int32 × Nat) (c1 : Nat) (l1 : List Int32), RX n0 sN ro mx vN M1 e.1 e.2 l1 c1 → SFm n0 M M1 cc l c1 l1 → l1.length + 1 ≤ l.length + 4 * (s + 1 - i) + 4 * (16 - o) → EndS b n s n0 sN ro mx vN M i o X l cc Q (.error e) → ok M1 (n0 + 22) 8 ∧ E (H' + 7) mdX6_add [.ref (n0 + 22), .int v] M1 (fun r M2 => mE M1 M2 → r = none ∧ T (H' + 7 + 1) mdX4_readSum 6 [(0, .ref 14), (1, .int (Int32.ofNat (c + 1)))] [] M2 Q) := by
          intro M1 e c1 l1 X1 F1 hlen hE
          exact ⟨X1.2.2.1.1, X_add X1 (by omega) (fun M2 c2 X2 F2 _ => ⟨rfl, X_sumL X2 (hE M2 c2 _ X2 (by rw [List.length_append]; exact hlen) (F1.tr F2))⟩)⟩
        refine ⟨ok14 F, 15, rf14_0 F, ok15 F, A_adv h1 hs (fun k1 M1 T1 F1 _ => ⟨rfl, ?_⟩) (fun k1 M1 T1 F1 _ => ⟨rfl, ?_⟩)⟩
        · have e2 : adv' b n i = .ok (i + 1) := by unfold adv'; rw [if_neg k1]
          rw [e2] at hE
          have hE : EndS b n s n0 sN ro mx vN M i o X l cc Q ((rd b n sN mx vN g 1 (i + 1) o X u).bind fun r => rd b n sN mx vN g 4 r.1 o (r.2.1 ++ [(opS (tK b n i), Int64.ofNat (X.length - 1), r.2.1.length - 1)]) r.2.2) := hE
          have R1 := hR.t F1 T1
          refine ih1 M1 (i + 1) o X u l cc (H' + 7) _ (by omega) (by omega) ho (by omega) R1 ?_
          have hok := rd_ok (sN := sN) (mx := mx) (vN := vN) hS g 1 (i + 1) o X u (by decide) (by omega) k1
          generalize rd b n sN mx vN g 1 (i + 1) o X u = R at hE hok
          cases R with
          | error e =>
            intro M3 c3 l3 X3 hlen F3
            exact fun _ => ⟨rfl, n0, X3.2.2.2.2.1, X3.2.1.1, n0 + 22, X3.2.1.2.2.2.2.2.2.2.2.2.2.2.2, sel M3 _ (bad M3 e c3 l3 X3 ((SFm.t F1 h7).tr F3) (by omega) hE)⟩
          | ok r =>
            obtain ⟨a1, a2, a3, ⟨Y, a4, a5⟩, a6⟩ := hok
            have a6 := (a6 (by decide)).1
            have ed : r.2.1.drop X.length = Y := by rw [a4]; exact List.drop_left
            have hlc := @cdL_len Y
            intro M3 c3 R3 F3
            refine fun _ => ⟨rfl, n0, R3.2.2.2.2.2.1, R3.2.1.1, n0 + 22, R3.2.1.2.2.2.2.2.2.2.2.2.2.2.2, sel M3 _ ⟨R3.2.2.1.1, A_add R3 (by rw [List.length_append, ed]; omega) (fun M4 c4 R4 F4 _ => ⟨rfl, ?_⟩)⟩⟩
            have hE : EndS b n s n0 sN ro mx vN M i o X l cc Q (rd b n sN mx vN g 4 r.1 o (r.2.1 ++ [(opS (tK b n i), Int64.ofNat (X.length - 1), r.2.1.length - 1)]) r.2.2) := hE
            have ecd2 : cdN (opS (tK b n i), Int64.ofNat (X.length - 1), r.2.1.length - 1) = [v] := ecd
            refine ih4 M4 r.1 o (c + 1) (r.2.1 ++ [(opS (tK b n i), Int64.ofNat (X.length - 1), r.2.1.length - 1)]) r.2.2 _ c4 (H' + 7 + 1) _ (by omega) (by omega) ho (by omega) (by rw [List.length_append, List.length_append, ed]; show l.length + (cdL Y).length + 1 + _ + _ ≤ _; omega) R4 ?_
            have hok2 := rd_ok (sN := sN) (mx := mx) (vN := vN) hS g 4 r.1 o (r.2.1 ++ [(opS (tK b n i), Int64.ofNat (X.length - 1), r.2.1.length - 1)]) r.2.2 (by decide) a2 a3
            generalize hnd : ((opS (tK b n i), Int64.ofNat (X.length - 1), r.2.1.length - 1) : Nd) = nd at hE hok2 ecd2 ⊢
            generalize rd b n sN mx vN g 4 r.1 o (r.2.1 ++ [nd]) r.2.2 = R2 at hE hok2
            cases R2 with
            | error e =>
              intro M5 c5 l5 X5 hlen F5
              refine hE M5 c5 l5 X5 ?_ ((((SFm.t F1 h7).tr F3).tr F4).tr F5)
              rw [List.length_append, List.length_append, ed] at hlen
              have hlen : l5.length ≤ l.length + (cdL Y).length + 1 + 4 * (s + 1 - r.1) + 4 * (16 - o) := hlen
              omega
            | ok r2 =>
              obtain ⟨b1, b2, b3, ⟨Z, b4, b5⟩, -⟩ := hok2
              have ez : r2.2.1.drop (r.2.1 ++ [nd]).length = Z := by rw [b4]; exact List.drop_left
              have ex : r2.2.1.drop X.length = Y ++ ([nd] ++ Z) := by rw [b4, a4]; simp only [List.append_assoc]; exact List.drop_left
              intro M5 c5 R5 F5
              have ec : l ++ cdL (r.2.1.drop X.length) ++ [v] ++ cdL (r2.2.1.drop (r.2.1 ++ [nd]).length) = l ++ cdL (r2.2.1.drop X.length) := by
                have e1 : cdL [nd] = [v] := by show cdN nd ++ [] = _; rw [ecd2]; rfl
                rw [ed, ez, ex, cdL_app, cdL_app, e1]; simp only [List.append_assoc]
              rw [ec] at R5 F5
              exact hE M5 c5 R5 ((((SFm.t F1 h7).tr F3).tr F4).tr F5)
        · have e2 : adv' b n i = .error (1, tP b n (i + 1)) := by unfold adv'; rw [if_pos k1]
          rw [e2] at hE
          have X1 := hR.x F1 T1
          exact X_times X1 (fun _ => ⟨rfl, n0, X1.2.2.2.2.1, X1.2.1.1, n0 + 22, X1.2.1.2.2.2.2.2.2.2.2.2.2.2.2, sel M1 _ (bad M1 (1, tP b n (i + 1)) cc l X1 (SFm.t F1 h7) (by omega) hE)⟩)
      refine ⟨fun hx => absurd ((le32 (a := 800) (b := c) (by decide) (by omega)).mp hx) (by omega), fun _ => ⟨ok14 F, 15, rf14_0 F, ok15 F, fun q => ?_, fun q1 => ⟨fun q => ?_, fun q2 => ?_⟩⟩⟩
      · rw [h1.kind] at q
        exact go 5 (fun _ => rfl) (fun z => absurd q z) (by rw [q]; rfl) (Or.inl q)
      · rw [h1.kind] at q
        exact go 6 (fun z => absurd (q.symm.trans z) (by decide)) (fun _ => rfl) (by rw [q]; rfl) (Or.inr q)
      · rw [h1.kind] at q1 q2
        rw [if_neg (by rintro (z | z); exact q1 z; exact q2 z)] at hE
        have ed : X.drop X.length = [] := List.drop_length
        refine hE M cc ?_ ?_
        · show RI b n s n0 sN ro mx vN M i o u (l ++ cdL (X.drop X.length)) cc
          rw [ed]; show RI b n s n0 sN ro mx vN M i o u (l ++ []) cc
          rw [List.append_nil]; exact hR
        · show SFm n0 M M cc l cc (l ++ cdL (X.drop X.length))
          rw [ed]; show SFm n0 M M cc l cc (l ++ [])
          rw [List.append_nil]; exact SFm.rf
end
end
