/-! the class reads parts: conditions as the middle has them; tails behind a fault -/
section
variable {b : Nat → Int32} {n s n0 m : Nat} {τ : Td} {M0 M M' : Mem} {i o j : Nat} {γ : ClT} {σ : PS} {cn : Nat → Nat} {ps : List Nat} {tl : List Int64} {f c : Int32} {p t t' h B t0 : Nat} {Q : Option Value → Mem → Prop} {W : Nat}
def EdK (b : Nat → Int32) (n s n0 : Nat) (τ : Td) (M0 : Mem) (o : Nat) (cn : Nat → Nat) (ps : List Nat) (tl : List Int64) (t : Nat) (P : Int32 → Mem → Prop) (R : Except (Int32 × Nat) (Nat × PS × Nat)) : Prop := match R with
  | .ok q => ∀ M', CS b n s n0 τ M0 M' q.1 o q.2.1.2.1 cn ps tl → P (Int32.ofNat q.2.2) M'
  | .error e => ∀ M' v, CX n0 τ M0 (s + 70) 0 M' e.1 e.2 ps tl t → P v M'
theorem Z_coM {H : Nat} (hB : By b) (hS : Sto b n s) (hC : CS b n s n0 τ M0 M i o σ.2.1 cn ps tl) (ho : o ≤ 15) (hH : 60 ≤ H) (hE : EdK b n s n0 τ M0 o cn ps tl (trS σ).1 (fun v M' => Q (some (.int v)) M') (coM b n m τ j i o σ)) : E H mdX4_readCondition [.ref 14] M Q := by
  unfold coM at hE
  refine Z_cond (Y := σ.2.2.2) hB hS hC ho hH ?_
  cases e : rc b n τ.1 6000 3 i o σ.2.2.2 with
  | error y => rw [e] at hE; exact fun M' v X' => hE M' v X'
  | ok r => rw [e] at hE; exact fun M' C' => hE M' C'
def EdA (b : Nat → Int32) (n s n0 : Nat) (τ : Td) (M0 : Mem) (o : Nat) (cn : Nat → Nat) (ps : List Nat) (tl : List Int64) (t : Nat) (P : Int32 → Int32 → Mem → Prop) (R : Except (Int32 × Nat) (Nat × PS × Nat × Bool)) : Prop := match R with
  | .ok q => ∀ M', CS b n s n0 τ M0 M' q.1 o q.2.1.2.1 cn ps tl → P (b32 q.2.2.2) (Int32.ofNat q.2.2.1) M'
  | .error e => ∀ M' im v, CX n0 τ M0 (s + 70) 0 M' e.1 e.2 ps tl t → P (b32 im) v M'
/-- 'immediate' or not, and a condition -/
theorem Z_atM {P : Int32 → Int32 → Mem → Prop} (hB : By b) (hS : Sto b n s) (hC : CS b n s n0 τ M0 M i o σ.2.1 cn ps tl) (ho : o ≤ 15) (hE : EdA b n s n0 τ M0 o cn ps tl (trS σ).1 P (atM b n m τ j i o σ)) : E (h + 60) mdX7_accept [.ref 15, .int 48] M (fun r M9 => mE M M9 → ∃ r10 : Int32, r = some (.int r10) ∧ E (h + 60) mdX4_readCondition [.ref 14] M9 (fun r M11 => mE M9 M11 → ∃ r12 : Int32, r = some (.int r12) ∧ P r10 r12 M11)) := by
  unfold atM imM at hE
  have go : ∀ (M1 : Mem) (i1 : Nat) (im : Bool), CS b n s n0 τ M0 M1 i1 o σ.2.1 cn ps tl → EdA b n s n0 τ M0 o cn ps tl (trS σ).1 P ((coM b n m τ j i1 o (if im = true then raP σ (up2 σ.1.2.1 61 (40 * m + j) 1) else σ)).bind fun q => .ok (q.1, q.2.1, q.2.2, im)) → E (h + 60) mdX4_readCondition [.ref 14] M1 (fun r M11 => mE M1 M11 → ∃ r12 : Int32, r = some (.int r12) ∧ P (b32 im) r12 M11) := by
    intro M1 i1 im C1 hq
    have e1 : (if im = true then raP σ (up2 σ.1.2.1 61 (40 * m + j) 1) else σ).2 = σ.2 := by cases im <;> rfl
    generalize (if im = true then raP σ (up2 σ.1.2.1 61 (40 * m + j) 1) else σ) = σ1 at hq e1
    have C1 : CS b n s n0 τ M0 M1 i1 o σ1.2.1 cn ps tl := by rw [e1]; exact C1
    refine Z_coM (j := j) (m := m) hB hS C1 ho (by omega) ?_
    have e2 : (trS σ1).1 = (trS σ).1 := by show σ1.2.1.2.1.1 = _; rw [e1]; rfl
    cases e : coM b n m τ j i1 o σ1 with
    | error y => rw [e] at hq; exact fun M' v X' _ => ⟨_, rfl, hq M' im v (by rw [← e2]; exact X')⟩
    | ok q => rw [e] at hq; exact fun M' C' _ => ⟨_, rfl, hq M' C'⟩
  refine Z_accept hS hC (by decide) (fun k => ?_) (fun k _ => ⟨_, rfl, ?_⟩)
  · rw [if_pos k] at hE
    cases ea : adv' b n i with
    | error y =>
      rw [ea] at hE
      exact fun M1 X1 _ => ⟨_, rfl, V_cond X1 (by omega) (fun _ => ⟨_, rfl, hE M1 true _ X1⟩)⟩
    | ok i1 =>
      rw [ea] at hE
      exact fun M1 C1 _ => ⟨_, rfl, go M1 i1 true C1 hE⟩
  · rw [if_neg k] at hE
    exact go M i false hC hE
end
/-- what is to be shown behind a fault: a node comes -/
def VEnd (n0 : Nat) (τ : Td) (M0 : Mem) (W B : Nat) (f : Int32) (p : Nat) (ps : List Nat) (tl : List Int64) (t : Nat) (Q : Option Value → Mem → Prop) : Prop := ∀ M' v t', CX n0 τ M0 W B M' f p ps tl t' → t ≤ t' → v < t' → Q (some (.int (Int32.ofNat v))) M'
section
variable {n0 : Nat} {τ : Td} {M0 M M' : Mem} {ps : List Nat} {tl : List Int64} {f c : Int32} {p t t' h B a x j v v1 v2 : Nat} {Q : Option Value → Mem → Prop} {k l r10 : Int32} {im : Bool} {W : Nat}
theorem VEnd.up (H : VEnd n0 τ M0 W B f p ps tl t Q) (k : t ≤ t') : VEnd n0 τ M0 W B f p ps tl t' Q := fun M' v t2 X h1 h2 => H M' v t2 X (Nat.le_trans k h1) h2
/-- choice -/
theorem V_c43 (X : CX n0 τ M0 W B M f p ps tl t) (h1 : v1 < t) (h2 : v2 < t) (H : VEnd n0 τ M0 W B f p ps tl t Q) : DX4_readChoice_43 (h + 3) 14 l (Int32.ofNat v1) (Int32.ofNat v2) M Q := by
  have F := X.1.1
  unfold DX4_readChoice_43
  exact ⟨ok14 F, 15, rf14_0 F, ok15 F, V_expect X (by decide) (fun _ => ⟨rfl, 4, rf14_1 F, ok4 F, V_op X (fun Θ hT ht h0 => ⟨chT Θ l v1 v2, ts_ch h0, fun Q' H' => S_ch F hT (by omega) (by omega) H'⟩) (fun M' v t' X' ht hv _ => ⟨_, rfl, H M' v t' X' ht hv⟩)⟩)⟩
theorem V_cmk (X : CX n0 τ M0 W B M f p ps tl t) (h1 : v1 < t) (H : VEnd n0 τ M0 W B f p ps tl t Q) : ∃ b11 : Nat, mR M 14 1 = some b11 ∧ ok M b11 10 ∧ E (h + 3) mdX8_make [.ref b11, .int 0] M (fun r M13 => mE M M13 → ∃ r14 : Int32, r = some (.int r14) ∧ DX4_readChoice_43 (h + 3) 14 l (Int32.ofNat v1) r14 M13 Q) := by
  have F := X.1.1
  exact ⟨4, rf14_1 F, ok4 F, V_op X (fun Θ hT _ h1 => ⟨mkT Θ 0, ts_mk h1, fun Q' H' => S_mk F hT H'⟩) (fun M1 v t1 X1 ht hv _ => ⟨_, rfl, V_c43 X1 (by omega) hv (H.up ht)⟩)⟩
theorem V_choice {d : Int32} (X : CX n0 τ M0 W B M f p ps tl t) (H : VEnd n0 τ M0 W B f p ps tl t Q) : E (h + 7) mdX4_readChoice [.ref 14, .int l, .int d] M Q := by
  have F := X.1.1
  refine KX4_readChoice ?_
  unfold DX4_readChoice_0
  refine ⟨ok14 F, 15, rf14_0 F, ok15 F, V_expect X (by decide) (fun _ => ⟨rfl, V_seq X (fun M1 v t1 X1 ht hv _ => ⟨_, rfl, 15, rf14_0 X1.1.1, ok15 X1.1.1, V_accept X1 (by decide) (fun _ => ⟨_, rfl, fun _ => V_cmk X1 hv (H.up ht), fun z => absurd rfl z⟩)⟩)⟩)⟩
/-- loop -/
theorem V_l23 (X : CX n0 τ M0 W B M f p ps tl t) (h1 : v < t) (H : VEnd n0 τ M0 W B f p ps tl t Q) : DX4_readLoop_23 (h + 3) 14 (Int32.ofNat v) M Q := by
  have F := X.1.1
  unfold DX4_readLoop_23
  exact ⟨ok14 F, 15, rf14_0 F, ok15 F, V_expect X (by decide) (fun _ => ⟨rfl, 4, rf14_1 F, ok4 F, V_op X (fun Θ hT ht h0 => ⟨wrT Θ 6 v, ts_wr h0, fun Q' H' => S_wr F hT (by omega) H'⟩) (fun M' v t' X' ht hv _ => ⟨_, rfl, H M' v t' X' ht hv⟩)⟩)⟩
def TLp (h x : Nat) (r3 : Int32) (Q : Option Value → Mem → Prop) (M2 : Mem) : Prop := ∃ b4 : Nat, mR M2 14 1 = some b4 ∧ ok M2 b4 10 ∧ E h mdX8_canEndAtOnce [.ref b4, .int r3] M2 (fun r M6 => mE M2 M6 → ∃ r7 : Int32, r = some (.int r7) ∧ (r7 = 0 → DX4_readLoop_23 h 14 r3 M6 Q) ∧ (¬ (r7 = 0) → ok M6 x 5 ∧ ∀ M9, M9 = wI M6 x 2 7 → DX4_readLoop_23 h 14 r3 M9 Q))
theorem V_lp (X : CX n0 τ M0 W B M f p ps tl t) (hj : j < ps.length) (h1 : v < t) (H : VEnd n0 τ M0 W B f p ps tl t Q) : TLp (h + 3) (ps.getD j 0) (Int32.ofNat v) Q M := by
  have F := X.1.1
  obtain ⟨Θ, hT, ht⟩ := X.trp
  exact ⟨4, rf14_1 F, ok4 F, S_ceo F hT (by omega) (fun _ => ⟨_, rfl, fun _ => V_l23 X h1 H, fun _ => ⟨X.part hj, fun M9 e9 => V_l23 (X.pt hj e9) h1 H⟩⟩)⟩
theorem V_loop {d : Int32} (X : CX n0 τ M0 W B M f p ps tl t) (hj : j < ps.length) (H : VEnd n0 τ M0 W B f p ps tl t Q) : E (h + 7) mdX4_readLoop [.ref 14, .ref (ps.getD j 0), .int d] M Q := by
  refine KX4_readLoop ?_
  unfold DX4_readLoop_0
  exact ⟨ok14 X.1.1, V_seq X (fun M1 v t1 X1 ht hv _ => ⟨_, rfl, V_lp (h := h + 3) X1 hj hv (H.up ht)⟩)⟩
/-- abort -/
def TAb2 (h : Nat) (r3 r12 r10 : Int32) (Q : Option Value → Mem → Prop) (M15 : Mem) : Prop := ∃ b16 : Nat, mR M15 14 1 = some b16 ∧ ok M15 b16 10 ∧ E h mdX8_abort [.ref b16, .int r3, .int r12] M15 (fun r M18 => mE M15 M18 → ∃ r19 : Int32, r = some (.int r19) ∧ (r10 = 0 → DX4_readAbort_81 h r19 M18 Q) ∧ (¬ (r10 = 0) → ∃ b20 : Nat, mR M18 14 1 = some b20 ∧ ∃ b21 : Nat, mR M18 14 1 = some b21 ∧ ok M18 b21 10 ∧ E h mdX8_make [.ref b21, .int 0] M18 (fun r M23 => mE M18 M23 → ∃ r24 : Int32, r = some (.int r24) ∧ ok M23 b20 10 ∧ E h mdX8_choice [.ref b20, .int r12, .int r24, .int r19] M23 (fun r M26 => mE M23 M26 → ∃ r27 : Int32, r = some (.int r27) ∧ DX4_readAbort_81 h r27 M26 Q))))
def TAb1 (h : Nat) (r3 r12 r10 : Int32) (Q : Option Value → Mem → Prop) (M11 : Mem) : Prop := ∃ b13 : Nat, mR M11 14 0 = some b13 ∧ ok M11 b13 9 ∧ E h mdX7_expect [.ref b13, .int 43] M11 (fun r M15 => mE M11 M15 → r = none ∧ TAb2 h r3 r12 r10 Q M15)
theorem V_ab2 (X : CX n0 τ M0 W B M f p ps tl t) (h1 : v < t) (H : VEnd n0 τ M0 W B f p ps tl t Q) : TAb2 (h + 6) (Int32.ofNat v) l r10 Q M := by
  have F := X.1.1
  refine ⟨4, rf14_1 F, ok4 F, V_op X (fun Θ hT ht h0 => ⟨abT Θ v l, ts_ab h0, fun Q' H' => S_ab F hT (by omega) H'⟩) (fun M1 v1 t1 X1 ht hv _ => ⟨_, rfl, fun _ => H M1 v1 t1 X1 ht hv, fun _ => ?_⟩)⟩
  have F1 := X1.1.1
  refine ⟨4, rf14_1 F1, 4, rf14_1 F1, ok4 F1, V_op X1 (fun Θ hT _ h1 => ⟨mkT Θ 0, ts_mk h1, fun Q' H' => S_mk F1 hT H'⟩) (fun M2 v2 t2 X2 ht2 hv2 _ => ⟨_, rfl, ok4 X2.1.1, ?_⟩)⟩
  exact V_op X2 (fun Θ hT ht h0 => ⟨chT Θ l v2 v1, ts_ch h0, fun Q' H' => S_ch X2.1.1 hT (by omega) (by omega) H'⟩) (fun M3 v3 t3 X3 ht3 hv3 _ => ⟨_, rfl, H M3 v3 t3 X3 (by omega) hv3⟩)
theorem V_ab1 (X : CX n0 τ M0 W B M f p ps tl t) (h1 : v < t) (H : VEnd n0 τ M0 W B f p ps tl t Q) : TAb1 (h + 6) (Int32.ofNat v) l r10 Q M := by
  have F := X.1.1
  exact ⟨15, rf14_0 F, ok15 F, V_expect X (by decide) (fun _ => ⟨rfl, V_ab2 X h1 H⟩)⟩
def TAb0 (h : Nat) (r3 : Int32) (Q : Option Value → Mem → Prop) (M2 : Mem) : Prop := ∃ b4 : Nat, mR M2 14 0 = some b4 ∧ ok M2 b4 9 ∧ E h mdX7_expect [.ref b4, .int 51] M2 (fun r M6 => mE M2 M6 → r = none ∧ ∃ b7 : Nat, mR M6 14 0 = some b7 ∧ ok M6 b7 9 ∧ E h mdX7_accept [.ref b7, .int 48] M6 (fun r M9 => mE M6 M9 → ∃ r10 : Int32, r = some (.int r10) ∧ E h mdX4_readCondition [.ref 14] M9 (fun r M11 => mE M9 M11 → ∃ r12 : Int32, r = some (.int r12) ∧ TAb1 h r3 r12 r10 Q M11)))
theorem V_abx (X : CX n0 τ M0 W B M f p ps tl t) (h1 : v < t) (H : VEnd n0 τ M0 W B f p ps tl t Q) : ∃ b7 : Nat, mR M 14 0 = some b7 ∧ ok M b7 9 ∧ E (h + 6) mdX7_accept [.ref b7, .int 48] M (fun r M9 => mE M M9 → ∃ r10 : Int32, r = some (.int r10) ∧ E (h + 6) mdX4_readCondition [.ref 14] M9 (fun r M11 => mE M9 M11 → ∃ r12 : Int32, r = some (.int r12) ∧ TAb1 (h + 6) (Int32.ofNat v) r12 r10 Q M11)) := by
  have F := X.1.1
  exact ⟨15, rf14_0 F, ok15 F, V_accept X (by decide) (fun _ => ⟨_, rfl, V_cond X (by omega) (fun _ => ⟨_, rfl, V_ab1 X h1 H⟩)⟩)⟩
theorem V_ab0 (X : CX n0 τ M0 W B M f p ps tl t) (h1 : v < t) (H : VEnd n0 τ M0 W B f p ps tl t Q) : TAb0 (h + 6) (Int32.ofNat v) Q M := by
  have F := X.1.1
  exact ⟨15, rf14_0 F, ok15 F, V_expect X (by decide) (fun _ => ⟨rfl, V_abx X h1 H⟩)⟩
theorem V_abort {d : Int32} (X : CX n0 τ M0 W B M f p ps tl t) (H : VEnd n0 τ M0 W B f p ps tl t Q) : E (h + 8) mdX4_readAbort [.ref 14, .int d] M Q := by
  refine KX4_readAbort ?_
  unfold DX4_readAbort_0
  exact ⟨ok14 X.1.1, V_trapped X (fun M1 v t1 X1 ht hv _ => ⟨_, rfl, V_ab0 (h := h + 1) X1 hv (H.up ht)⟩)⟩
/-- weak abort -/
def TWk2 (h : Nat) (r6 r15 r13 : Int32) (Q : Option Value → Mem → Prop) (M18 : Mem) : Prop := ∃ b19 : Nat, mR M18 14 1 = some b19 ∧ ok M18 b19 10 ∧ E h mdX8_weak [.ref b19, .int r6, .int r15, .int r13] M18 (fun r M21 => mE M18 M21 → ∃ r22 : Int32, r = some (.int r22) ∧ Q (some (.int r22)) M21)
def TWk1 (h : Nat) (r6 r15 r13 : Int32) (Q : Option Value → Mem → Prop) (M14 : Mem) : Prop := ∃ b16 : Nat, mR M14 14 0 = some b16 ∧ ok M14 b16 9 ∧ E h mdX7_expect [.ref b16, .int 43] M14 (fun r M18 => mE M14 M18 → r = none ∧ TWk2 h r6 r15 r13 Q M18)
def TWkx (h : Nat) (r6 : Int32) (Q : Option Value → Mem → Prop) (M9 : Mem) : Prop := ∃ b10 : Nat, mR M9 14 0 = some b10 ∧ ok M9 b10 9 ∧ E h mdX7_accept [.ref b10, .int 48] M9 (fun r M12 => mE M9 M12 → ∃ r13 : Int32, r = some (.int r13) ∧ E h mdX4_readCondition [.ref 14] M12 (fun r M14 => mE M12 M14 → ∃ r15 : Int32, r = some (.int r15) ∧ TWk1 h r6 r15 r13 Q M14))
def TWk0 (h : Nat) (r6 : Int32) (Q : Option Value → Mem → Prop) (M5 : Mem) : Prop := ∃ b7 : Nat, mR M5 14 0 = some b7 ∧ ok M5 b7 9 ∧ E h mdX7_expect [.ref b7, .int 51] M5 (fun r M9 => mE M5 M9 → r = none ∧ TWkx h r6 Q M9)
theorem V_wk2 (X : CX n0 τ M0 W B M f p ps tl t) (h1 : v < t) (H : VEnd n0 τ M0 W B f p ps tl t Q) : TWk2 (h + 6) (Int32.ofNat v) l (b32 im) Q M := by
  have F := X.1.1
  exact ⟨4, rf14_1 F, ok4 F, V_op X (fun Θ hT ht h0 => ⟨wkT Θ v l im, ts_wk h0, fun Q' H' => S_wk F hT (by omega) H'⟩) (fun M1 v1 t1 X1 ht hv _ => ⟨_, rfl, H M1 v1 t1 X1 ht hv⟩)⟩
theorem V_wk1 (X : CX n0 τ M0 W B M f p ps tl t) (h1 : v < t) (H : VEnd n0 τ M0 W B f p ps tl t Q) : TWk1 (h + 6) (Int32.ofNat v) l (b32 im) Q M := by
  have F := X.1.1
  exact ⟨15, rf14_0 F, ok15 F, V_expect X (by decide) (fun _ => ⟨rfl, V_wk2 X h1 H⟩)⟩
theorem V_wkx (X : CX n0 τ M0 W B M f p ps tl t) (h1 : v < t) (H : VEnd n0 τ M0 W B f p ps tl t Q) : TWkx (h + 6) (Int32.ofNat v) Q M := by
  have F := X.1.1
  exact ⟨15, rf14_0 F, ok15 F, V_accept X (by decide) (fun _ => ⟨_, rfl, V_cond X (by omega) (fun _ => ⟨_, rfl, V_wk1 (im := false) X h1 H⟩)⟩)⟩
theorem V_wk0 (X : CX n0 τ M0 W B M f p ps tl t) (h1 : v < t) (H : VEnd n0 τ M0 W B f p ps tl t Q) : TWk0 (h + 6) (Int32.ofNat v) Q M := by
  have F := X.1.1
  exact ⟨15, rf14_0 F, ok15 F, V_expect X (by decide) (fun _ => ⟨rfl, V_wkx X h1 H⟩)⟩
def TWk (h : Nat) (d : Int32) (Q : Option Value → Mem → Prop) (M4 : Mem) : Prop := E h mdX4_readTrapped [.ref 14, .long 0, .int d] M4 (fun r M5 => mE M4 M5 → ∃ r6 : Int32, r = some (.int r6) ∧ TWk0 h r6 Q M5)
theorem V_wk {d : Int32} (X : CX n0 τ M0 W B M f p ps tl t) (H : VEnd n0 τ M0 W B f p ps tl t Q) : TWk (h + 7) d Q M := V_trapped X (fun M1 v t1 X1 ht hv _ => ⟨_, rfl, V_wk0 (h := h + 1) X1 hv (H.up ht)⟩)
theorem V_weak {d : Int32} (X : CX n0 τ M0 W B M f p ps tl t) (H : VEnd n0 τ M0 W B f p ps tl t Q) : E (h + 8) mdX4_readWeak [.ref 14, .int d] M Q := by
  have F := X.1.1
  refine KX4_readWeak ?_
  unfold DX4_readWeak_0
  exact ⟨ok14 F, 15, rf14_0 F, ok15 F, V_expect X (by decide) (fun _ => ⟨rfl, V_wk X H⟩)⟩
/-- suspend -/
def TSu2 (h : Nat) (r3 r8 : Int32) (Q : Option Value → Mem → Prop) (M11 : Mem) : Prop := ∃ b12 : Nat, mR M11 14 1 = some b12 ∧ ok M11 b12 10 ∧ E h mdX8_suspend [.ref b12, .int r3, .int r8] M11 (fun r M14 => mE M11 M14 → ∃ r15 : Int32, r = some (.int r15) ∧ Q (some (.int r15)) M14)
def TSu1 (h : Nat) (r3 r8 : Int32) (Q : Option Value → Mem → Prop) (M7 : Mem) : Prop := ∃ b9 : Nat, mR M7 14 0 = some b9 ∧ ok M7 b9 9 ∧ E h mdX7_expect [.ref b9, .int 43] M7 (fun r M11 => mE M7 M11 → r = none ∧ TSu2 h r3 r8 Q M11)
def TSux (h : Nat) (r3 : Int32) (Q : Option Value → Mem → Prop) (M6 : Mem) : Prop := E h mdX4_readCondition [.ref 14] M6 (fun r M7 => mE M6 M7 → ∃ r8 : Int32, r = some (.int r8) ∧ TSu1 h r3 r8 Q M7)
def TSu0 (h : Nat) (r3 : Int32) (Q : Option Value → Mem → Prop) (M2 : Mem) : Prop := ∃ b4 : Nat, mR M2 14 0 = some b4 ∧ ok M2 b4 9 ∧ E h mdX7_expect [.ref b4, .int 51] M2 (fun r M6 => mE M2 M6 → r = none ∧ TSux h r3 Q M6)
theorem V_su2 (X : CX n0 τ M0 W B M f p ps tl t) (h1 : v < t) (H : VEnd n0 τ M0 W B f p ps tl t Q) : TSu2 (h + 6) (Int32.ofNat v) l Q M := by
  have F := X.1.1
  exact ⟨4, rf14_1 F, ok4 F, V_op X (fun Θ hT ht h0 => ⟨suT Θ v l, ts_su h0, fun Q' H' => S_su F hT (by omega) H'⟩) (fun M1 v1 t1 X1 ht hv _ => ⟨_, rfl, H M1 v1 t1 X1 ht hv⟩)⟩
theorem V_su1 (X : CX n0 τ M0 W B M f p ps tl t) (h1 : v < t) (H : VEnd n0 τ M0 W B f p ps tl t Q) : TSu1 (h + 6) (Int32.ofNat v) l Q M := by
  have F := X.1.1
  exact ⟨15, rf14_0 F, ok15 F, V_expect X (by decide) (fun _ => ⟨rfl, V_su2 X h1 H⟩)⟩
theorem V_sux (X : CX n0 τ M0 W B M f p ps tl t) (h1 : v < t) (H : VEnd n0 τ M0 W B f p ps tl t Q) : TSux (h + 6) (Int32.ofNat v) Q M := V_cond X (by omega) (fun _ => ⟨_, rfl, V_su1 X h1 H⟩)
theorem V_su0 (X : CX n0 τ M0 W B M f p ps tl t) (h1 : v < t) (H : VEnd n0 τ M0 W B f p ps tl t Q) : TSu0 (h + 6) (Int32.ofNat v) Q M := by
  have F := X.1.1
  exact ⟨15, rf14_0 F, ok15 F, V_expect X (by decide) (fun _ => ⟨rfl, V_sux X h1 H⟩)⟩
theorem V_suspend {d : Int32} (X : CX n0 τ M0 W B M f p ps tl t) (H : VEnd n0 τ M0 W B f p ps tl t Q) : E (h + 8) mdX4_readSuspend [.ref 14, .int d] M Q := by
  refine KX4_readSuspend ?_
  unfold DX4_readSuspend_0
  exact ⟨ok14 X.1.1, V_seq X (fun M1 v t1 X1 ht hv _ => ⟨_, rfl, V_su0 (h := h + 1) X1 hv (H.up ht)⟩)⟩
end
