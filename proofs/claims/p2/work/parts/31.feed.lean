/-! feed, end, fault, against, count -/
def byt (v s : Int32) : Int32 := vp_nar .byte ((((v : Int32).toUInt32 >>> ((s : Int32).toUInt32 &&& Int32.toUInt32 31)).toInt32 : Int32).toInt8.toInt32)
def ap1 (M : Mem) (v s : Int32) : Mem := wI (wAI M 1 (mI M 0 1).toNatClampNeg (byt v s)) 0 1 (mI M 0 1 + 1)
def ap4 (M : Mem) (v : Int32) : Mem := ap1 (ap1 (ap1 (ap1 M v 24) v 16) v 8) v 0
theorem mI_ap1 {M : Mem} {v s : Int32} : mI (ap1 M v s) 0 1 = mI M 0 1 + 1 := mI_own _ _ _ _
theorem Fix.p1 {M : Mem} {v s : Int32} (F : Fix M) : Fix (ap1 M v s) := F.ai.i
theorem ap_step {h t : Nat} {v s : Int32} {M : Mem} {Q : Option Value → Mem → Prop} (F : Fix M) (hs : ¬ s < 0) (ht : mI M 0 1 = Int32.ofNat t) (h8 : t < 800) (H : T (h + 1) mdX10_append 3 [(0, .ref 0), (1, .int v), (2, .int (s + (-8)))] [] (ap1 M v s) Q) : T (h + 1) mdX10_append 3 [(0, .ref 0), (1, .int v), (2, .int s)] [] M Q := by
  refine VX10_append_3 ?_
  unfold DX10_append_3
  refine ⟨fun hc => absurd hc hs, fun _ => ⟨ok0 F, 1, rf0_0 F, ok1 F, fun hc => ?_, fun _ => ⟨1, rf0_0 F, ok1 F, ?_, fun M6 e6 M7 e7 => ?_⟩⟩⟩
  · rw [ln1 F, ht] at hc
    exfalso
    ((try simp only [Int32.toNatClampNeg, Int32.lt_iff_toInt_lt, Int32.le_iff_toInt_le, ← Int32.toInt_inj, j_add, j_sub, j_neg, j_mul, j_nat, Int32.reduceToInt, vp_in] at hc ⊢); omega)
  · rw [ln1 F, ht]
    ((try simp only [Int32.toNatClampNeg, Int32.lt_iff_toInt_lt, Int32.le_iff_toInt_le, ← Int32.toInt_inj, j_add, j_sub, j_neg, j_mul, j_nat, Int32.reduceToInt, vp_in]); omega)
  · subst e6 e7
    exact H
theorem S_append {h t : Nat} {v : Int32} {M : Mem} {Q : Option Value → Mem → Prop} (F : Fix M) (ht : mI M 0 1 = Int32.ofNat t) (h8 : t + 4 ≤ 800) (H : Q none (ap4 M v)) : E (h + 1) mdX10_append [.ref 0, .int v] M Q := by
  refine KX10_append ?_
  unfold DX10_append_0
  refine ap_step (t := t) F (by decide) ht (by omega) ?_
  refine ap_step (s := 16) (t := t + 1) F.p1 (by decide) (by rw [mI_ap1, ht, succ32]) (by omega) ?_
  refine ap_step (s := 8) (t := t + 1 + 1) F.p1.p1 (by decide) (by rw [mI_ap1, mI_ap1, ht, succ32, succ32]) (by omega) ?_
  refine ap_step (s := 0) (t := t + 1 + 1 + 1) F.p1.p1.p1 (by decide) (by rw [mI_ap1, mI_ap1, mI_ap1, ht, succ32, succ32, succ32]) (by omega) ?_
  refine VX10_append_3 ?_
  unfold DX10_append_3 DX10_append_48
  exact ⟨fun _ => H, fun hc => absurd (by decide) hc⟩
theorem mI_ap4 {M : Mem} {v : Int32} {t : Nat} (ht : mI M 0 1 = Int32.ofNat t) : mI (ap4 M v) 0 1 = Int32.ofNat (t + 4) := by
  unfold ap4
  rw [mI_ap1, mI_ap1, mI_ap1, mI_ap1, ht, succ32, succ32, succ32, succ32]
theorem Fix.p4 {M : Mem} {v : Int32} (F : Fix M) : Fix (ap4 M v) := F.p1.p1.p1.p1
def ap20 (M : Mem) (a b c d e : Int32) : Mem := ap4 (ap4 (ap4 (ap4 (ap4 M a) b) c) d) e
theorem S_feed {h t : Nat} {a b c d e : Int32} {M : Mem} {Q : Option Value → Mem → Prop} (F : Fix M) (ht : mI M 0 1 = Int32.ofNat t) (h8 : t ≤ 800) (H1 : t + 20 ≤ 800 → Q (some (.int (Int32.ofNat (t + 20)))) (ap20 M a b c d e)) (H2 : ¬ t + 20 ≤ 800 → Q (some (.int (-3))) M) : E (h + 2) mdX10_feed [.ref 0, .int a, .int b, .int c, .int d, .int e] M Q := by
  refine KX10_feed ?_
  unfold DX10_feed_0
  refine ⟨ok0 F, fun hc => ?_, fun hc => ?_⟩
  · rw [ht] at hc
    have hc : t + 20 ≤ 800 := by ((try simp only [Int32.toNatClampNeg, Int32.lt_iff_toInt_lt, Int32.le_iff_toInt_le, ← Int32.toInt_inj, j_add, j_sub, j_neg, j_mul, j_nat, Int32.reduceToInt, vp_in] at hc ⊢); omega)
    have H := H1 hc
    refine S_append F ht (by omega) (fun _ => ⟨rfl, ?_⟩)
    refine S_append F.p4 (mI_ap4 ht) (by omega) (fun _ => ⟨rfl, ?_⟩)
    refine S_append F.p4.p4 (mI_ap4 (mI_ap4 ht)) (by omega) (fun _ => ⟨rfl, ?_⟩)
    refine S_append F.p4.p4.p4 (mI_ap4 (mI_ap4 (mI_ap4 ht))) (by omega) (fun _ => ⟨rfl, ?_⟩)
    refine S_append F.p4.p4.p4.p4 (mI_ap4 (mI_ap4 (mI_ap4 (mI_ap4 ht)))) (by omega) (fun _ => ⟨rfl, ?_⟩)
    rw [mI_ap4 (mI_ap4 (mI_ap4 (mI_ap4 (mI_ap4 ht))))]
    exact H
  · rw [ht] at hc
    have hc : ¬ t + 20 ≤ 800 := by ((try simp only [Int32.toNatClampNeg, Int32.lt_iff_toInt_lt, Int32.le_iff_toInt_le, ← Int32.toInt_inj, j_add, j_sub, j_neg, j_mul, j_nat, Int32.reduceToInt, vp_in] at hc ⊢); omega)
    exact H2 hc
def pu1 (M : Mem) (v s : Int32) : Mem := wI (wAI M 30 (mI M 29 1).toNatClampNeg ((v >>> (s &&& 31)) &&& 255)) 29 1 (mI M 29 1 + 1)
def pu4 (M : Mem) (v : Int32) : Mem := pu1 (pu1 (pu1 (pu1 M v 24) v 16) v 8) v 0
theorem mI_pu1 {M : Mem} {v s : Int32} : mI (pu1 M v s) 29 1 = mI M 29 1 + 1 := mI_own _ _ _ _
theorem Fix.u1 {M : Mem} {v s : Int32} (F : Fix M) : Fix (pu1 M v s) := F.ai.i
theorem pu_step {h t : Nat} {v s : Int32} {M : Mem} {Q : Option Value → Mem → Prop} (F : Fix M) (hs : ¬ s < 0) (ht : mI M 29 1 = Int32.ofNat t) (h8 : t < 800) (H : T (h + 1) mdX11_put 3 [(0, .ref 29), (1, .int v), (2, .int (s + (-8)))] [] (pu1 M v s) Q) : T (h + 1) mdX11_put 3 [(0, .ref 29), (1, .int v), (2, .int s)] [] M Q := by
  refine VX11_put_3 ?_
  unfold DX11_put_3
  refine ⟨fun hc => absurd hc hs, fun _ => ⟨ok29 F, 30, rf29_0 F, ok30 F, ?_, fun M6 e6 M7 e7 => ?_⟩⟩
  · rw [ln30 F, ht]
    ((try simp only [Int32.toNatClampNeg, Int32.lt_iff_toInt_lt, Int32.le_iff_toInt_le, ← Int32.toInt_inj, j_add, j_sub, j_neg, j_mul, j_nat, Int32.reduceToInt, vp_in]); omega)
  · subst e6 e7
    exact H
theorem S_put {h t : Nat} {v : Int32} {M : Mem} {Q : Option Value → Mem → Prop} (F : Fix M) (ht : mI M 29 1 = Int32.ofNat t) (h8 : t + 4 ≤ 800) (H : Q none (pu4 M v)) : E (h + 1) mdX11_put [.ref 29, .int v] M Q := by
  refine KX11_put ?_
  unfold DX11_put_0
  refine pu_step (t := t) F (by decide) ht (by omega) ?_
  refine pu_step (s := 16) (t := t + 1) F.u1 (by decide) (by rw [mI_pu1, ht, succ32]) (by omega) ?_
  refine pu_step (s := 8) (t := t + 1 + 1) F.u1.u1 (by decide) (by rw [mI_pu1, mI_pu1, ht, succ32, succ32]) (by omega) ?_
  refine pu_step (s := 0) (t := t + 1 + 1 + 1) F.u1.u1.u1 (by decide) (by rw [mI_pu1, mI_pu1, mI_pu1, ht, succ32, succ32, succ32]) (by omega) ?_
  refine VX11_put_3 ?_
  unfold DX11_put_3
  exact ⟨fun _ => H, fun hc => absurd (by decide) hc⟩
theorem mI_pu4 {M : Mem} {v : Int32} {t : Nat} (ht : mI M 29 1 = Int32.ofNat t) : mI (pu4 M v) 29 1 = Int32.ofNat (t + 4) := by
  unfold pu4
  rw [mI_pu1, mI_pu1, mI_pu1, mI_pu1, ht, succ32, succ32, succ32, succ32]
theorem Fix.u4 {M : Mem} {v : Int32} (F : Fix M) : Fix (pu4 M v) := F.u1.u1.u1.u1
def pu20 (M : Mem) (a b c d e : Int32) : Mem := pu4 (pu4 (pu4 (pu4 (pu4 M a) b) c) d) e
theorem R_feed {h t : Nat} {a b c d e : Int32} {M : Mem} {Q : Option Value → Mem → Prop} (F : Fix M) (ht : mI M 29 1 = Int32.ofNat t) (h8 : t ≤ 800) (H1 : t + 20 ≤ 800 → Q (some (.int (Int32.ofNat (t + 20)))) (pu20 M a b c d e)) (H2 : ¬ t + 20 ≤ 800 → Q (some (.int (-3))) M) : E (h + 2) mdX11_feed [.ref 29, .int a, .int b, .int c, .int d, .int e] M Q := by
  refine KX11_feed ?_
  unfold DX11_feed_0
  refine ⟨ok29 F, fun hc => ?_, fun hc => ?_⟩
  · rw [ht] at hc
    have hc : t + 20 ≤ 800 := by ((try simp only [Int32.toNatClampNeg, Int32.lt_iff_toInt_lt, Int32.le_iff_toInt_le, ← Int32.toInt_inj, j_add, j_sub, j_neg, j_mul, j_nat, Int32.reduceToInt, vp_in] at hc ⊢); omega)
    have H := H1 hc
    refine S_put F ht (by omega) (fun _ => ⟨rfl, ?_⟩)
    refine S_put F.u4 (mI_pu4 ht) (by omega) (fun _ => ⟨rfl, ?_⟩)
    refine S_put F.u4.u4 (mI_pu4 (mI_pu4 ht)) (by omega) (fun _ => ⟨rfl, ?_⟩)
    refine S_put F.u4.u4.u4 (mI_pu4 (mI_pu4 (mI_pu4 ht))) (by omega) (fun _ => ⟨rfl, ?_⟩)
    refine S_put F.u4.u4.u4.u4 (mI_pu4 (mI_pu4 (mI_pu4 (mI_pu4 ht)))) (by omega) (fun _ => ⟨rfl, ?_⟩)
    rw [mI_pu4 (mI_pu4 (mI_pu4 (mI_pu4 (mI_pu4 ht))))]
    exact H
  · rw [ht] at hc
    have hc : ¬ t + 20 ≤ 800 := by ((try simp only [Int32.toNatClampNeg, Int32.lt_iff_toInt_lt, Int32.le_iff_toInt_le, ← Int32.toInt_inj, j_add, j_sub, j_neg, j_mul, j_nat, Int32.reduceToInt, vp_in] at hc ⊢); omega)
    exact H2 hc
theorem S_end {h : Nat} {n : Int32} {M : Mem} {Q : Option Value → Mem → Prop} (F : Fix M) (H1 : ¬ n < 0 → n ≤ mI M 0 1 → Q (some (.int (mI M 0 1))) (wI M 0 1 n)) (H2 : (n < 0 ∨ ¬ n ≤ mI M 0 1) → Q (some (.int (-1))) M) : E (h + 1) mdX10_end [.ref 0, .int n] M Q := by
  refine KX10_end ?_
  unfold DX10_end_0 DX10_end_12
  refine ⟨fun h1 => H2 (Or.inl h1), fun h1 => ⟨ok0 F, fun h2 M2 e2 => ?_, fun h2 => H2 (Or.inr h2)⟩⟩
  subst e2
  exact H1 h1 h2
theorem in_32 {n m : Int32} : (if (0 : Int64) ≤ n.toInt64 ∧ n.toInt64 ≤ m.toInt64 then (1 : Int32) else 0) = if ¬ n < 0 ∧ n ≤ m then 1 else 0 := by
  have e : ((0 : Int64) ≤ n.toInt64 ∧ n.toInt64 ≤ m.toInt64) ↔ (¬ n < 0 ∧ n ≤ m) := by
    rw [Int64.le_iff_toInt_le, Int64.le_iff_toInt_le, Int32.le_iff_toInt_le, Int32.lt_iff_toInt_lt, Int32.toInt_toInt64, Int32.toInt_toInt64]
    have e2 : (0 : Int64).toInt = 0 := by decide
    have e3 : (0 : Int32).toInt = 0 := by decide
    rw [e2, e3]
    omega
  by_cases hh : ¬ n < 0 ∧ n ≤ m
  · rw [if_pos hh, if_pos (e.mpr hh)]
  · rw [if_neg hh, if_neg (fun z => hh (e.mp z))]
theorem R_end {h : Nat} {n : Int32} {M : Mem} {Q : Option Value → Mem → Prop} (F : Fix M) (H1 : ¬ n < 0 → n ≤ mI M 29 1 → Q (some (.int (mI M 29 1))) (wI M 29 1 n)) (H2 : (n < 0 ∨ ¬ n ≤ mI M 29 1) → Q (some (.int (-1))) M) : E (h + 2) mdX11_end [.ref 29, .int n] M Q := by
  refine KX11_end ?_
  unfold DX11_end_0
  refine ⟨ok29 F, S_in (fun _ => ⟨_, rfl, fun hr M4 e4 => ?_, fun hr => ?_⟩)⟩
  · rw [in_32] at hr
    by_cases hh : ¬ n < 0 ∧ n ≤ mI M 29 1
    · subst e4; exact H1 hh.1 hh.2
    · rw [if_neg hh] at hr; exact absurd rfl hr
  · rw [in_32] at hr
    by_cases hh : ¬ n < 0 ∧ n ≤ mI M 29 1
    · rw [if_pos hh] at hr; exact absurd hr (by decide)
    · refine H2 ?_
      by_cases h1 : n < 0
      · exact Or.inl h1
      · exact Or.inr (fun z => hh ⟨h1, z⟩)
theorem S_fault {h : Nat} {M : Mem} {Q : Option Value → Mem → Prop} (F : Fix M) (H : Q (some (.int (mI M 0 6))) M) : E (h + 1) mdX10_fault [.ref 0] M Q := by
  refine KX10_fault ?_
  unfold DX10_fault_0
  exact ⟨ok0 F, H⟩
theorem R_fault {h : Nat} {M : Mem} {Q : Option Value → Mem → Prop} (F : Fix M) (H : Q (some (.int (mI M 29 6))) M) : E (h + 1) mdX11_fault [.ref 29] M Q := by
  refine KX11_fault ?_
  unfold DX11_fault_0
  exact ⟨ok29 F, H⟩
theorem S_against {h : Nat} {w : Int32} {M : Mem} {Q : Option Value → Mem → Prop} (F : Fix M) (H : Q (some (.int (if w = 0 then mI M 0 7 else if w = 1 then mI M 0 8 else -1))) M) : E (h + 1) mdX10_against [.ref 0, .int w] M Q := by
  refine KX10_against ?_
  unfold DX10_against_0 DX10_against_22
  refine ⟨fun h1 => ⟨fun h2 => ?_, fun h2 => ⟨ok0 F, ?_⟩⟩, fun h1 => ⟨ok0 F, ?_⟩⟩
  · rwa [if_neg h1, if_neg h2] at H
  · rwa [if_neg h1, if_pos h2] at H
  · rwa [if_pos h1] at H
theorem R_against {h : Nat} {w : Int32} {M : Mem} {Q : Option Value → Mem → Prop} (F : Fix M) (H : Q (some (.int (if w = 0 then mI M 29 123 else if w = 1 then mI M 29 124 else -1))) M) : E (h + 1) mdX11_against [.ref 29, .int w] M Q := by
  refine KX11_against ?_
  unfold DX11_against_0 DX11_against_24
  refine ⟨fun h1 => ⟨fun h2 => ?_, fun h2 => ⟨ok29 F, ?_⟩⟩, fun h1 => ⟨ok29 F, ?_⟩⟩
  · rwa [if_neg h1, if_neg h2] at H
  · rwa [if_neg h1, if_pos h2] at H
  · rwa [if_pos h1] at H
theorem S_count {h : Nat} {w : Int32} {M : Mem} {Q : Option Value → Mem → Prop} (F : Fix M) (H : Q (some (.int (if w = 0 then mI M 2 2 else if w = 1 then mI M 3 2 else if w = 2 then mI M 0 1 else -1))) M) : E (h + 2) mdX10_count [.ref 0, .int w] M Q := by
  refine KX10_count ?_
  unfold DX10_count_0
  refine ⟨fun h1 => ⟨ok0 F, 2, rf0_2 F, ok2 F, S_size (ok2 F) (fun _ => ⟨_, rfl, ?_⟩)⟩, fun h1 => ⟨ok0 F, 3, rf0_3 F, ok3 F, S_size (ok3 F) (fun _ => ⟨_, rfl, ?_⟩)⟩, fun h1 => ⟨ok0 F, ?_⟩, fun h1 => ?_⟩
  · rwa [if_pos h1] at H
  · rwa [if_neg (by rw [h1]; decide), if_pos h1] at H
  · rwa [if_neg (by rw [h1]; decide), if_neg (by rw [h1]; decide), if_pos h1] at H
  · rwa [if_neg (by rintro rfl; revert h1; decide), if_neg (by rintro rfl; revert h1; decide), if_neg (by rintro rfl; revert h1; decide)] at H
theorem R_count {h : Nat} {w : Int32} {M : Mem} {Q : Option Value → Mem → Prop} (F : Fix M) (H : Q (some (.int (if w = 0 then mI M 29 18 else if w = 1 then mI M 29 91 else if w = 2 then mI M 29 1 else -1))) M) : E (h + 1) mdX11_count [.ref 29, .int w] M Q := by
  refine KX11_count ?_
  unfold DX11_count_0 DX11_count_36
  refine ⟨fun h1 => ⟨fun h2 => ⟨fun h3 => ?_, fun h3 => ⟨ok29 F, ?_⟩⟩, fun h2 => ⟨ok29 F, ?_⟩⟩, fun h1 => ⟨ok29 F, ?_⟩⟩
  · rwa [if_neg h1, if_neg h2, if_neg h3] at H
  · rwa [if_neg h1, if_neg h2, if_pos h3] at H
  · rwa [if_neg h1, if_pos h2] at H
  · rwa [if_pos h1] at H
theorem R_clear {h : Nat} {M : Mem} {Q : Option Value → Mem → Prop} (F : Fix M) (H : Q (some (.int (mI M 29 18))) (wI (wI M 29 18 0) 29 91 0)) : E (h + 1) mdX11_clear [.ref 29] M Q := by
  refine KX11_clear ?_
  unfold DX11_clear_0
  refine ⟨ok29 F, fun M2 e2 M3 e3 => ?_⟩
  subst e2 e3
  exact H
