/-! the class reads parts: every, trap, branches behind a fault -/
section
variable {n0 : Nat} {τ : Td} {M0 M M' : Mem} {ps : List Nat} {tl : List Int64} {f c : Int32} {p t t' h B a x j v v1 v2 : Nat} {Q : Option Value → Mem → Prop} {k l r10 : Int32} {im : Bool} {W : Nat}
/-- every: behind its 'end' -/
def TEv2 (h : Nat) (r7 r11 r16 : Int32) (Q : Option Value → Mem → Prop) (M19 : Mem) : Prop := ∃ b20 : Nat, mR M19 14 1 = some b20 ∧ ∃ b21 : Nat, mR M19 14 1 = some b21 ∧ ok M19 b21 10 ∧ E h mdX8_halt [.ref b21] M19 (fun r M23 => mE M19 M23 → ∃ r24 : Int32, r = some (.int r24) ∧ ok M23 b20 10 ∧ E h mdX8_pair [.ref b20, .int 5, .int r16, .int r24] M23 (fun r M26 => mE M23 M26 → ∃ r27 : Int32, r = some (.int r27) ∧ ∃ b28 : Nat, mR M26 14 1 = some b28 ∧ ∃ b29 : Nat, mR M26 14 1 = some b29 ∧ ∃ b30 : Nat, mR M26 14 1 = some b30 ∧ ok M26 b30 10 ∧ E h mdX8_abort [.ref b30, .int r27, .int r7] M26 (fun r M32 => mE M26 M32 → ∃ r33 : Int32, r = some (.int r33) ∧ ok M32 b29 10 ∧ E h mdX8_wrap [.ref b29, .int 6, .int r33] M32 (fun r M35 => mE M32 M35 → ∃ r36 : Int32, r = some (.int r36) ∧ ok M35 b28 10 ∧ E h mdX8_pair [.ref b28, .int 5, .int r11, .int r36] M35 (fun r M38 => mE M35 M38 → ∃ r39 : Int32, r = some (.int r39) ∧ Q (some (.int r39)) M38)))))
def TEv1 (h : Nat) (r7 r11 r16 : Int32) (Q : Option Value → Mem → Prop) (M15 : Mem) : Prop := ∃ b17 : Nat, mR M15 14 0 = some b17 ∧ ok M15 b17 9 ∧ E h mdX7_expect [.ref b17, .int 43] M15 (fun r M19 => mE M15 M19 → r = none ∧ TEv2 h r7 r11 r16 Q M19)
def TEvx (h : Nat) (r7 r11 d : Int32) (Q : Option Value → Mem → Prop) (M14 : Mem) : Prop := E h mdX4_readTrapped [.ref 14, .long 0, .int d] M14 (fun r M15 => mE M14 M15 → ∃ r16 : Int32, r = some (.int r16) ∧ TEv1 h r7 r11 r16 Q M15)
def TEvd (h : Nat) (r7 r11 d : Int32) (Q : Option Value → Mem → Prop) (M10 : Mem) : Prop := ∃ b12 : Nat, mR M10 14 0 = some b12 ∧ ok M10 b12 9 ∧ E h mdX7_expect [.ref b12, .int 54] M10 (fun r M14 => mE M10 M14 → r = none ∧ TEvx h r7 r11 d Q M14)
def TEvw (h : Nat) (r7 r5 d : Int32) (Q : Option Value → Mem → Prop) (M6 : Mem) : Prop := ∃ b8 : Nat, mR M6 14 1 = some b8 ∧ ok M6 b8 10 ∧ E h mdX8_await [.ref b8, .int r7, .int r5] M6 (fun r M10 => mE M6 M10 → ∃ r11 : Int32, r = some (.int r11) ∧ TEvd h r7 r11 d Q M10)
theorem V_ev2 (X : CX n0 τ M0 W B M f p ps tl t) (h1 : v < t) (h2 : v2 < t) (H : VEnd n0 τ M0 W B f p ps tl t Q) : TEv2 (h + 6) l (Int32.ofNat v2) (Int32.ofNat v) Q M := by
  have F := X.1.1
  refine ⟨4, rf14_1 F, 4, rf14_1 F, ok4 F, V_op X (fun Θ hT ht h0 => ⟨haT Θ, ts_ha h0, fun Q' H' => S_ha F hT H'⟩) (fun M1 w1 t1 X1 q1 u1 _ => ⟨_, rfl, ok4 X1.1.1, ?_⟩)⟩
  have F1 := X1.1.1
  refine V_op X1 (fun Θ hT ht h0 => ⟨prT Θ 5 v w1, ts_pr h0, fun Q' H' => S_pr F1 hT (by omega) (by omega) H'⟩) (fun M2 w2 t2 X2 q2 u2 _ => ⟨_, rfl, ?_⟩)
  have F2 := X2.1.1
  refine ⟨4, rf14_1 F2, 4, rf14_1 F2, 4, rf14_1 F2, ok4 F2, V_op X2 (fun Θ hT ht h0 => ⟨abT Θ w2 l, ts_ab h0, fun Q' H' => S_ab F2 hT (by omega) H'⟩) (fun M3 w3 t3 X3 q3 u3 _ => ⟨_, rfl, ok4 X3.1.1, ?_⟩)⟩
  refine V_op X3 (fun Θ hT ht h0 => ⟨wrT Θ 6 w3, ts_wr h0, fun Q' H' => S_wr X3.1.1 hT (by omega) H'⟩) (fun M4 w4 t4 X4 q4 u4 _ => ⟨_, rfl, ok4 X4.1.1, ?_⟩)
  exact V_op X4 (fun Θ hT ht h0 => ⟨prT Θ 5 v2 w4, ts_pr h0, fun Q' H' => S_pr X4.1.1 hT (by omega) (by omega) H'⟩) (fun M5 w5 t5 X5 q5 u5 _ => ⟨_, rfl, H M5 w5 t5 X5 (by omega) u5⟩)
theorem V_ev1 (X : CX n0 τ M0 W B M f p ps tl t) (h1 : v < t) (h2 : v2 < t) (H : VEnd n0 τ M0 W B f p ps tl t Q) : TEv1 (h + 6) l (Int32.ofNat v2) (Int32.ofNat v) Q M := by
  have F := X.1.1
  exact ⟨15, rf14_0 F, ok15 F, V_expect X (by decide) (fun _ => ⟨rfl, V_ev2 X h1 h2 H⟩)⟩
theorem V_evx {d : Int32} (X : CX n0 τ M0 W B M f p ps tl t) (h2 : v2 < t) (H : VEnd n0 τ M0 W B f p ps tl t Q) : TEvx (h + 7) l (Int32.ofNat v2) d Q M := V_trapped X (fun M1 v t1 X1 ht hv _ => ⟨_, rfl, V_ev1 (h := h + 1) X1 hv (by omega) (H.up ht)⟩)
theorem V_evd {d : Int32} (X : CX n0 τ M0 W B M f p ps tl t) (h2 : v2 < t) (H : VEnd n0 τ M0 W B f p ps tl t Q) : TEvd (h + 7) l (Int32.ofNat v2) d Q M := by
  have F := X.1.1
  exact ⟨15, rf14_0 F, ok15 F, V_expect X (by decide) (fun _ => ⟨rfl, V_evx X h2 H⟩)⟩
theorem V_evw {d : Int32} (X : CX n0 τ M0 W B M f p ps tl t) (H : VEnd n0 τ M0 W B f p ps tl t Q) : TEvw (h + 7) l (b32 im) d Q M := by
  have F := X.1.1
  exact ⟨4, rf14_1 F, ok4 F, V_op X (fun Θ hT ht h0 => ⟨awT Θ l im, ts_aw h0, fun Q' H' => S_aw F hT H'⟩) (fun M1 w1 t1 X1 q1 u1 _ => ⟨_, rfl, V_evd X1 u1 (H.up q1)⟩)⟩
theorem V_every {d : Int32} (X : CX n0 τ M0 W B M f p ps tl t) (H : VEnd n0 τ M0 W B f p ps tl t Q) : E (h + 8) mdX4_readEvery [.ref 14, .int d] M Q := by
  have F := X.1.1
  refine KX4_readEvery ?_
  unfold DX4_readEvery_0
  exact ⟨ok14 F, 15, rf14_0 F, ok15 F, V_accept X (by decide) (fun _ => ⟨_, rfl, V_cond X (by omega) (fun _ => ⟨_, rfl, V_evw (im := false) X H⟩)⟩)⟩
/-- trap -/
def TTr2 (h : Nat) (r9 : Int32) (Q : Option Value → Mem → Prop) (M12 : Mem) : Prop := ∃ b13 : Nat, mR M12 14 1 = some b13 ∧ ok M12 b13 10 ∧ E h mdX8_wrap [.ref b13, .int 9, .int r9] M12 (fun r M15 => mE M12 M15 → ∃ r16 : Int32, r = some (.int r16) ∧ Q (some (.int r16)) M15)
def TTr1 (h : Nat) (r9 : Int32) (Q : Option Value → Mem → Prop) (M8 : Mem) : Prop := ∃ b10 : Nat, mR M8 14 0 = some b10 ∧ ok M8 b10 9 ∧ E h mdX7_expect [.ref b10, .int 43] M8 (fun r M12 => mE M8 M12 → r = none ∧ TTr2 h r9 Q M12)
def TTrx (h : Nat) (c : Int64) (d : Int32) (Q : Option Value → Mem → Prop) (M7 : Mem) : Prop := E h mdX4_readTrapped [.ref 14, .long c, .int d] M7 (fun r M8 => mE M7 M8 → ∃ r9 : Int32, r = some (.int r9) ∧ TTr1 h r9 Q M8)
theorem V_tr2 (X : CX n0 τ M0 W B M f p ps tl t) (h1 : v < t) (H : VEnd n0 τ M0 W B f p ps tl t Q) : TTr2 (h + 6) (Int32.ofNat v) Q M := by
  have F := X.1.1
  exact ⟨4, rf14_1 F, ok4 F, V_op X (fun Θ hT ht h0 => ⟨wrT Θ 9 v, ts_wr h0, fun Q' H' => S_wr F hT (by omega) H'⟩) (fun M1 v1 t1 X1 ht hv _ => ⟨_, rfl, H M1 v1 t1 X1 ht hv⟩)⟩
theorem V_tr1 (X : CX n0 τ M0 W B M f p ps tl t) (h1 : v < t) (H : VEnd n0 τ M0 W B f p ps tl t Q) : TTr1 (h + 6) (Int32.ofNat v) Q M := by
  have F := X.1.1
  exact ⟨15, rf14_0 F, ok15 F, V_expect X (by decide) (fun _ => ⟨rfl, V_tr2 X h1 H⟩)⟩
theorem V_trx {d : Int32} {c : Int64} (X : CX n0 τ M0 W B M f p ps tl t) (H : VEnd n0 τ M0 W B f p ps tl t Q) : TTrx (h + 7) c d Q M := V_trapped X (fun M1 v t1 X1 ht hv _ => ⟨_, rfl, V_tr1 (h := h + 1) X1 hv (H.up ht)⟩)
theorem V_tr58 {d : Int32} {c : Int64} (X : CX n0 τ M0 W B M f p ps tl t) (H : VEnd n0 τ M0 W B f p ps tl t Q) : DX4_readTrap_58 (h + 7) 14 d c M Q := by
  have F := X.1.1
  unfold DX4_readTrap_58
  exact ⟨ok14 F, 15, rf14_0 F, ok15 F, V_adv X (fun _ => ⟨rfl, 15, rf14_0 F, ok15 F, V_expect X (by decide) (fun _ => ⟨rfl, V_trx X H⟩)⟩)⟩
theorem V_trap {d : Int32} (X : CX n0 τ M0 W B M f p ps tl t) (H : VEnd n0 τ M0 W B f p ps tl t Q) : E (h + 8) mdX4_readTrap [.ref 14, .int d] M Q := by
  have F := X.1.1
  refine KX4_readTrap ?_
  unfold DX4_readTrap_0
  refine ⟨ok14 F, 15, rf14_0 F, ok15 F, 15, rf14_0 F, ok15 F, fun z => absurd z (by rw [X.1.2.2.2.2.2]; decide), fun _ => ⟨15, rf14_0 F, ok15 F, V_fail X (fun _ => ⟨rfl, V_tr58 X H⟩)⟩⟩
/-- branches -/
theorem CX.gu {q : Nat} {w : Int32} (X : CX n0 τ M0 W B M f p ps tl t) (hq : q = 5 ∨ q = 6) (e : M' = wI M 14 q w) : CX n0 τ M0 W B M' f p ps tl t := by
  obtain ⟨h1, γ, cn, h2, h3⟩ := X
  have T' : TF M' f p := by rw [e]; exact h1.fr h1.1.i w14
  rcases hq with rfl | rfl
  · exact ⟨T', _, cn, h2.gv h1.1 e, h3⟩
  · exact ⟨T', _, cn, h2.uv h1.1 e, h3⟩
theorem V_br153 {x3 x4 x5 x6 : Int32} (X : CX n0 τ M0 W B M f p ps tl t) (h1 : v < t) (H : VEnd n0 τ M0 W B f p ps tl t Q) : DX4_readBranches_153 (h + 2) 14 x3 x4 x5 x6 (Int32.ofNat v) M Q := by
  unfold DX4_readBranches_153
  refine ⟨ok14 X.1.1, fun M2 e2 M3 e3 => ?_⟩
  have X3 := (X.gu (Or.inl rfl) e2).gu (Or.inr rfl) e3
  have F := X3.1.1
  exact ⟨15, rf14_0 F, ok15 F, V_expect X3 (by decide) (fun _ => ⟨rfl, H M3 v t X3 (Nat.le_refl _) h1⟩)⟩
theorem V_br91 {d x3 x4 x5 x6 x8 : Int32} (X : CX n0 τ M0 W B M f p ps tl t) (h1 : v < t) (H : VEnd n0 τ M0 W B f p ps tl t Q) : DX4_readBranches_91 (h + 2) 14 x d x3 x4 x5 x6 (Int32.ofNat v) x8 M Q := by
  have F := X.1.1
  unfold DX4_readBranches_91
  exact ⟨ok14 F, 15, rf14_0 F, ok15 F, fun z => absurd z (by rw [X.1.2.2.2.2.2]; decide), fun _ => V_br153 X h1 H⟩
def TBr (h x : Nat) (d x3 x4 x5 x6 x7 x8 : Int32) (Q : Option Value → Mem → Prop) (M8 : Mem) : Prop := (¬ ((mI M8 14 5) &&& (x5 ||| x6)) = 0 → DX4_readBranches_85 h 14 x d x3 x4 x5 x6 x7 x8 M8 Q) ∧ (((mI M8 14 5) &&& (x5 ||| x6)) = 0 → (((mI M8 14 6) &&& x5) = 0 → DX4_readBranches_91 h 14 x d x3 x4 x5 x6 x7 x8 M8 Q) ∧ (¬ (((mI M8 14 6) &&& x5) = 0) → DX4_readBranches_85 h 14 x d x3 x4 x5 x6 x7 x8 M8 Q))
theorem V_br {d x3 x4 x5 x6 x8 : Int32} (X : CX n0 τ M0 W B M f p ps tl t) (hj : j < ps.length) (h1 : v < t) (H : VEnd n0 τ M0 W B f p ps tl t Q) : TBr (h + 2) (ps.getD j 0) d x3 x4 x5 x6 (Int32.ofNat v) x8 Q M := by
  have w : DX4_readBranches_85 (h + 2) 14 (ps.getD j 0) d x3 x4 x5 x6 (Int32.ofNat v) x8 M Q := by
    unfold DX4_readBranches_85
    exact ⟨X.part hj, fun M2 e2 => V_br91 (X.pt hj e2) h1 H⟩
  exact ⟨fun _ => w, fun _ => ⟨fun _ => V_br91 X h1 H, fun _ => w⟩⟩
theorem V_br31 {d x3 x4 x5 x6 x8 : Int32} (X : CX n0 τ M0 W B M f p ps tl t) (hj : j < ps.length) (h1 : v < t) (H : VEnd n0 τ M0 W B f p ps tl t Q) : T (h + 7) mdX4_readBranches 31 [(0, .ref 14), (1, .ref (ps.getD j 0)), (2, .int d), (3, .int x3), (4, .int x4), (5, .int x5), (6, .int x6), (7, .int (Int32.ofNat v)), (8, .int x8)] [] M Q := by
  refine VX4_readBranches_31 ?_
  unfold DX4_readBranches_31
  refine ⟨fun _ => V_br153 X h1 H, fun _ => ⟨ok14 X.1.1, fun M2 e2 M3 e3 => ?_⟩⟩
  have X3 := (X.gu (Or.inl rfl) e2).gu (Or.inr rfl) e3
  refine ⟨4, rf14_1 X3.1.1, V_seq X3 (fun M5 w t5 X5 ht hw _ => ⟨_, rfl, ok4 X5.1.1, V_hg X5 (by omega) hw (fun M8 X8 _ => ⟨rfl, V_br X8 hj (by omega) (H.up ht)⟩)⟩)⟩
theorem V_branches {d : Int32} (X : CX n0 τ M0 W B M f p ps tl t) (hj : j < ps.length) (H : VEnd n0 τ M0 W B f p ps tl t Q) : E (h + 7) mdX4_readBranches [.ref 14, .ref (ps.getD j 0), .int d] M Q := by
  have F := X.1.1
  refine KX4_readBranches ?_
  unfold DX4_readBranches_0
  exact ⟨ok14 F, 4, rf14_1 F, ok4 F, V_op X (fun Θ hT ht h0 => ⟨mkT Θ 8, ts_mk h0, fun Q' H' => S_mk F hT H'⟩) (fun M1 w1 t1 X1 q1 u1 _ => ⟨_, rfl, V_br31 X1 hj u1 (H.up q1)⟩)⟩
end
