/-! the class reads parts: what a part begins with, behind a fault -/
section
variable {n0 : Nat} {τ : Td} {M0 M M' : Mem} {ps : List Nat} {tl : List Int64} {f c : Int32} {p t t' h B a x j v v1 v2 : Nat} {Q : Option Value → Mem → Prop} {k l r10 : Int32} {im : Bool} {W : Nat}
theorem V_emitted (X : CX n0 τ M0 W B M f p ps tl t) (H : Q (some (.int (-1))) M) : E (h + 3) mdX4_emittedSignal [.ref 14] M Q := by
  refine KX4_emittedSignal ?_
  unfold DX4_emittedSignal_0 DX4_emittedSignal_34
  exact ⟨ok14 X.1.1, X_told X.1 (fun _ => ⟨_, rfl, fun _ => H, fun z => absurd rfl z⟩)⟩
theorem V_emit (X : CX n0 τ M0 W B M f p ps tl t) (H : Q (some (.int 0)) M) : E (h + 4) mdX4_readEmit [.ref 14, .ref x] M Q := by
  have F := X.1.1
  refine KX4_readEmit ?_
  unfold DX4_readEmit_0 DX4_readEmit_35
  exact ⟨ok14 F, 15, rf14_0 F, ok15 F, V_emitted X (fun _ => ⟨_, rfl, 15, rf14_0 F, ok15 F, V_adv X (fun _ => ⟨rfl, fun _ => H, fun z => absurd rfl z⟩)⟩)⟩
theorem V_sust (X : CX n0 τ M0 W B M f p ps tl t) (H : Q (some (.int 0)) M) : E (h + 4) mdX4_readSustain [.ref 14] M Q := by
  have F := X.1.1
  refine KX4_readSustain ?_
  unfold DX4_readSustain_0 DX4_readSustain_35
  exact ⟨ok14 F, 15, rf14_0 F, ok15 F, V_emitted X (fun _ => ⟨_, rfl, 15, rf14_0 F, ok15 F, V_adv X (fun _ => ⟨rfl, fun _ => H, fun z => absurd rfl z⟩)⟩)⟩
theorem V_exit (X : CX n0 τ M0 W B M f p ps tl t) (H : Q (some (.int 0)) M) : E (h + 4) mdX4_readExit [.ref 14] M Q := by
  have F := X.1.1
  refine KX4_readExit ?_
  unfold DX4_readExit_0
  exact ⟨ok14 F, 15, rf14_0 F, ok15 F, fun z => absurd z (by rw [X.1.2.2.2.2.2]; decide), fun _ => ⟨15, rf14_0 F, ok15 F, V_fail X (fun _ => ⟨rfl, H⟩)⟩⟩
theorem CX.env (X : CX n0 τ M0 W B M f p ps tl t) : EnvC M n0 τ.1 τ.2.1 τ.2.2.1 τ.2.2.2.1 := by
  obtain ⟨h1, γ, cn, h2, h3⟩ := X
  exact h2.env
theorem V_asg {w : Int64} (X : CX n0 τ M0 W B M f p ps tl t) (hj : j < ps.length) (hB : B ≤ 100) (H : VEnd n0 τ M0 W (B + 1) f p ps tl t Q) : E (h + 8) mdX4_readAssign [.ref 14, .ref (ps.getD j 0), .long w] M Q := by
  have F := X.1.1
  have N := X.nz
  refine KX4_readAssign ?_
  unfold DX4_readAssign_0
  refine ⟨ok14 F, n0, N.2.2.2.2.2.1, N.2.2.1, S_varNamed X.env (fun _ => ⟨_, rfl, X.part hj, fun M7 e7 M8 e8 M9 e9 => ?_⟩)⟩
  have X9 := ((X.pt hj e7).pt hj e8).gu (Or.inl rfl) e9
  have F9 := X9.1.1
  have N9 := X9.nz
  refine ⟨15, rf14_0 F9, ok15 F9, V_expect X9 (by decide) (fun _ => ⟨rfl, n0, N9.2.2.2.2.2.1, N9.2.2.1, n0 + 22, N9.2.2.2.2.2.2.2.2.1, N9.2.2.2.2.1, fun M17 e17 => ?_⟩)⟩
  have X17 := X9.pt hj e17
  refine V_suM (h := h + 3) X17 hB (fun M2 X2 => ?_)
  have F2 := X2.1.1
  exact ⟨4, rf14_1 F2, ok4 F2, V_op X2 (fun Θ hT _ h1 => ⟨mkT Θ 0, ts_mk h1, fun Q' H' => S_mk F2 hT H'⟩) (fun M' v t' X' ht hv _ => ⟨_, rfl, H M' v t' X' ht hv⟩)⟩
theorem CX.ifs (X : CX n0 τ M0 W B M f p ps tl t) (e : M' = wI M n0 14 (mI M n0 14 + 1)) : CX n0 τ M0 W B M' f p ps tl t := by
  have N := X.nz
  obtain ⟨h1, γ, cn, h2, h3⟩ := X
  rw [h2.rd.2.2.2.2.1, succ32] at e
  exact ⟨TF_hi h1 (by rw [e]; exact fr_wI (S := fun c => 132 ≤ c) N.1), γ, va_up cn 2 (cn 2 + 1), h2.w0 (Or.inl rfl) e rfl rfl rfl rfl, h3⟩
theorem V_cmp (X : CX n0 τ M0 W B M f p ps tl t) (hj : j < ps.length) (hB : B ≤ 10) (H : ∀ M' v, CX n0 τ M0 W (B + 3) M' f p ps tl t → Q (some (.int v)) M') : E (h + 9) mdX4_readComparison [.ref 14, .ref (ps.getD j 0)] M Q := by
  refine KX4_readComparison ?_
  unfold DX4_readComparison_0
  refine ⟨X.part hj, fun M2 e2 => ?_⟩
  have X2 := X.pt hj e2
  have N2 := X2.nz
  refine ⟨ok14 X2.1.1, n0, N2.2.2.2.2.2.1, N2.2.2.1, fun M6 e6 => ?_⟩
  have X6 := X2.pt hj e6
  have N6 := X6.nz
  refine ⟨n0, N6.2.2.2.2.2.1, N6.2.2.1, fun M9 e9 => ?_⟩
  have X9 := X6.ifs e9
  have N9 := X9.nz
  refine ⟨n0, N9.2.2.2.2.2.1, N9.2.2.1, n0 + 22, N9.2.2.2.2.2.2.2.2.1, N9.2.2.2.2.1, fun M14 e14 => ?_⟩
  have X14 := X9.pt hj e14
  refine V_suM (h := h + 4) X14 (by omega) (fun M20 X20 => ?_)
  have F20 := X20.1.1
  refine ⟨15, rf14_0 F20, ok15 F20, fun M23 e23 => ?_⟩
  have X23 := X20.pt hj e23
  have F23 := X23.1.1
  refine ⟨15, rf14_0 F23, ok15 F23, fun _ => ?_, fun z => absurd (by rw [X23.1.2.2.2.2.2]; decide) z⟩
  unfold DX4_readComparison_93 DX4_readComparison_101
  have N := X23.nz
  refine ⟨ok14 F23, 15, rf14_0 F23, ok15 F23, V_fail X23 (fun _ => ⟨rfl, ok14 F23, 15, rf14_0 F23, ok15 F23, V_adv X23 (fun _ => ⟨rfl, n0, N.2.2.2.2.2.1, N.2.2.1, n0 + 22, N.2.2.2.2.2.2.2.2.1, N.2.2.2.2.1, X23.part hj, fun M3 e3 => ?_⟩)⟩)⟩
  have X3 := X23.pt hj e3
  refine V_suM (h := h + 4) X3 (by omega) (fun M4 X4 => ?_)
  have N4 := X4.nz
  exact ⟨n0, N4.2.2.2.2.2.1, N4.2.2.1, n0 + 8, N4.2.2.2.2.2.2.1, N4.2.2.2.1, V_if X4 (by omega) (fun M5 v X5 _ => ⟨_, rfl, H M5 v X5⟩)⟩
theorem V_body {d : Int32} (X : CX n0 τ M0 W B M f p ps tl t) (hj : j < ps.length) (hB : B ≤ 6) (H : VEnd n0 τ M0 W (B + 3) f p ps tl t Q) : E (h + 12) mdX4_readBody [.ref 14, .int k, .ref (ps.getD j 0), .int d] M Q := by
  have F := X.1.1
  have en : ∀ M' v t' B', CX n0 τ M0 W B' M' f p ps tl t' → B' ≤ B + 3 → t ≤ t' → v < t' → Q (some (.int (Int32.ofNat v))) M' := fun M' v t' B' X' q q1 q2 => H M' v t' (X'.mono (Nat.le_refl _) q) q1 q2
  have z0 : Q (some (.int 0)) M := en M 0 (Nat.max t 1) B X.one.2 (by omega) (Nat.le_max_left _ _) (Nat.lt_of_lt_of_le Nat.zero_lt_one (Nat.le_max_right _ _))
  have mk : ok M 14 6 ∧ ∃ b5 : Nat, mR M 14 1 = some b5 ∧ ok M b5 10 ∧ E (h + 11) mdX8_make [.ref b5, .int 0] M (fun r M7 => mE M M7 → ∃ r8 : Int32, r = some (.int r8) ∧ Q (some (.int r8)) M7) := ⟨ok14 F, 4, rf14_1 F, ok4 F, V_op X (fun Θ hT _ h1 => ⟨mkT Θ 0, ts_mk h1, fun Q' H' => S_mk F hT H'⟩) (fun M' v t' X' q1 q2 _ => ⟨_, rfl, en M' v t' B X' (by omega) q1 q2⟩)⟩
  refine KX4_readBody ?_
  unfold DX4_readBody_0
  exact ⟨fun _ => ⟨ok14 F, V_branches X hj (fun M' v t' X' q1 q2 _ => ⟨_, rfl, en M' v t' B X' (by omega) q1 q2⟩)⟩, fun _ => mk, fun _ => mk, fun _ => mk, fun _ => mk, fun _ => mk, fun _ => mk, fun _ => mk, fun _ => mk, fun _ => mk, fun _ => mk, fun _ => mk, fun _ => mk, fun _ => mk, fun _ => mk, fun _ => mk, fun _ => mk, fun _ => mk, fun _ => mk, fun _ => mk, fun _ => mk, fun _ => ⟨ok14 F, 4, rf14_1 F, ok4 F, V_op X (fun Θ hT _ h0 => ⟨paT Θ, ts_pa h0, fun Q' H' => S_pa F hT H'⟩) (fun M' v t' X' q1 q2 _ => ⟨_, rfl, en M' v t' B X' (by omega) q1 q2⟩)⟩, fun _ => ⟨ok14 F, 4, rf14_1 F, ok4 F, V_op X (fun Θ hT _ h0 => ⟨haT Θ, ts_ha h0, fun Q' H' => S_ha F hT H'⟩) (fun M' v t' X' q1 q2 _ => ⟨_, rfl, en M' v t' B X' (by omega) q1 q2⟩)⟩, fun _ => ⟨ok14 F, V_emit X (fun _ => ⟨_, rfl, z0⟩)⟩, fun _ => ⟨ok14 F, V_sust X (fun _ => ⟨_, rfl, z0⟩)⟩, fun _ => ⟨ok14 F, V_loop X hj (fun M' v t' X' q1 q2 _ => ⟨_, rfl, en M' v t' B X' (by omega) q1 q2⟩)⟩, fun _ => mk, fun _ => ⟨ok14 F, V_cond X (by omega) (fun _ => ⟨_, rfl, V_choice X (fun M' v t' X' q1 q2 _ => ⟨_, rfl, en M' v t' B X' (by omega) q1 q2⟩)⟩)⟩, fun _ => mk, fun _ => mk, fun _ => ⟨ok14 F, 15, rf14_0 F, ok15 F, V_accept X (by decide) (fun _ => ⟨_, rfl, 4, rf14_1 F, V_cond X (by omega) (fun _ => ⟨_, rfl, ok4 F, V_op X (fun Θ hT _ h0 => ⟨awT Θ 0 false, ts_aw h0, fun Q' H' => S_aw F hT H'⟩) (fun M' v t' X' q1 q2 _ => ⟨_, rfl, en M' v t' B X' (by omega) q1 q2⟩)⟩)⟩)⟩, fun _ => mk, fun _ => ⟨ok14 F, V_abort X (fun M' v t' X' q1 q2 _ => ⟨_, rfl, en M' v t' B X' (by omega) q1 q2⟩)⟩, fun _ => ⟨ok14 F, V_weak X (fun M' v t' X' q1 q2 _ => ⟨_, rfl, en M' v t' B X' (by omega) q1 q2⟩)⟩, fun _ => mk, fun _ => ⟨ok14 F, V_suspend X (fun M' v t' X' q1 q2 _ => ⟨_, rfl, en M' v t' B X' (by omega) q1 q2⟩)⟩, fun _ => ⟨ok14 F, V_every X (fun M' v t' X' q1 q2 _ => ⟨_, rfl, en M' v t' B X' (by omega) q1 q2⟩)⟩, fun _ => mk, fun _ => ⟨ok14 F, V_trap X (fun M' v t' X' q1 q2 _ => ⟨_, rfl, en M' v t' B X' (by omega) q1 q2⟩)⟩, fun _ => mk, fun _ => ⟨ok14 F, V_exit X (fun _ => ⟨_, rfl, z0⟩)⟩, fun _ => ⟨ok14 F, V_cmp X hj (by omega) (fun M1 l X1 _ => ⟨_, rfl, V_choice X1 (fun M' v t' X' q1 q2 _ => ⟨_, rfl, en M' v t' (B + 3) X' (by omega) q1 q2⟩)⟩)⟩, fun _ => mk⟩
/-- the end of a part -/
theorem V_136 (X : CX n0 τ M0 W B M f p ps tl t) (hj : j < ps.length) (hv : v < t) (H : VEnd n0 τ M0 W B f p ps tl t Q) : DX4_readPart_136 (h + 2) 14 k (ps.getD j 0) (ps.getD j 0) (Int32.ofNat v) M Q := by
  unfold DX4_readPart_136 DX4_readPart_153
  refine ⟨X.part hj, fun M2 e2 => ?_⟩
  have X2 := X.pt hj e2
  have F2 := X2.1.1
  have g : ps.getD j 0 ≠ 15 := by
    have q := X.nz.1
    obtain ⟨h1, γ, cn, h2, h3⟩ := X
    have := (h2.part hj).2.1
    omega
  have f1 : mI M2 (ps.getD j 0) 1 = Int32.ofNat v := by rw [e2, mI_wI, if_pos ⟨rfl, rfl⟩]
  refine S_stays (fun _ => ⟨_, rfl, fun _ => ⟨X2.part hj, ?_⟩, fun _ => ⟨ok14 F2, 15, rf14_0 F2, ok15 F2, F_closes X2.1 (fun M3 T3 k3 _ => ⟨rfl, (X2.tok k3 T3).part hj, ?_⟩)⟩⟩)
  · rw [f1]; exact H M2 v t X2 (Nat.le_refl _) hv
  · rw [(k3.row g).1, f1]
    exact H M3 v t (X2.tok k3 T3) (Nat.le_refl _) hv
/-- behind the begin of a part, a fault being there -/
theorem V_97 {d : Int32} (X : CX n0 τ M0 W B M f p ps tl t) (hj : j < ps.length) (hB : B ≤ 6) (H : VEnd n0 τ M0 W (B + 3) f p ps tl t Q) : DX4_readPart_97 (h + 12) 14 d k (ps.getD j 0) M Q := by
  have F := X.1.1
  unfold DX4_readPart_97
  refine ⟨ok14 F, 15, rf14_0 F, ok15 F, 15, rf14_0 F, ok15 F, V_adv X (fun _ => ⟨rfl, fun _ => ?_, fun _ => ?_⟩)⟩
  · exact V_body X hj hB (fun M' v t' X' q1 q2 _ => ⟨_, rfl, V_136 (h := h + 10) X' hj q2 (H.up q1)⟩)
  · exact V_asg (h := h + 4) X hj (by omega) (fun M' v t' X' q1 q2 _ => ⟨_, rfl, V_136 (h := h + 10) (X'.mono (Nat.le_refl _) (by omega)) hj q2 (H.up q1)⟩)
end
