section
/-! the class reads parts: what a part begins with, behind a fault -/
section
variable {n0 : Nat} {τ : Td} {M0 M M' : Mem} {ps : List Nat} {tl : List Int64} {f c : Int32} {p t t' h B a x j v v1 v2 : Nat} {Q : Option Value → Mem → Prop} {k l r10 : Int32} {im : Bool} {W : Nat}
theorem V_emitted (X : CX n0 τ M0 W B M f p ps tl t) (H : Q (some (.int (-1))) M) : E (h + 3) mdX4_emittedSignal [.ref 14] M Q := by
  refine KX4_emittedSignal ?_
  unfold DX4_emittedSignal_0 DX4_emittedSignal_34
  exact ⟨ok14 X.1.1, X_told X.1 (fun _ => ⟨_, rfl, fun _ => H, fun z => absurd rfl z⟩)⟩
theorem V_emit (X : CX n0 τ M0 W B M f p ps tl t) (H : Q (some (.int 0)) M) : E (h + 4) mdX4_readEmit [.ref 14, .ref x] M Q := by
  have F := X.1.1
  refine KX4_readEmit ?_
  unfold DX4_readEmit_0 DX4_readEmit_35
  exact ⟨ok14 F, 15, rf14_0 F, ok15 F, V_emitted X (fun _ => ⟨_, rfl, 15, rf14_0 F, ok15 F, V_adv X (fun _ => ⟨rfl, fun _ => H, fun z => absurd rfl z⟩)⟩)⟩
theorem V_sust (X : CX n0 τ M0 W B M f p ps tl t) (H : Q (some (.int 0)) M) : E (h + 4) mdX4_readSustain [.ref 14] M Q := by
  have F := X.1.1
  refine KX4_readSustain ?_
  unfold DX4_readSustain_0 DX4_readSustain_35
  exact ⟨ok14 F, 15, rf14_0 F, ok15 F, V_emitted X (fun _ => ⟨_, rfl, 15, rf14_0 F, ok15 F, V_adv X (fun _ => ⟨rfl, fun _ => H, fun z => absurd rfl z⟩)⟩)⟩
theorem V_exit (X : CX n0 τ M0 W B M f p ps tl t) (H : Q (some (.int 0)) M) : E (h + 4) mdX4_readExit [.ref 14] M Q := by
  have F := X.1.1
  refine KX4_readExit ?_
  unfold DX4_readExit_0
  exact ⟨ok14 F, 15, rf14_0 F, ok15 F, fun z => absurd z (by rw [X.1.2.2.2.2.2]; decide), fun _ => ⟨15, rf14_0 F, ok15 F, V_fail X (fun _ => ⟨rfl, H⟩)⟩⟩
theorem CX.env (X : CX n0 τ M0 W B M f p ps tl t) : EnvC M n0 τ.1 τ.2.1 τ.2.2.1 τ.2.2.2.1 := by
  obtain ⟨h1, γ, cn, h2, h3⟩ := X
  exact h2.env
theorem V_asg {w : Int64} (X : CX n0 τ M0 W B M f p ps tl t) (hj : j < ps.length) (hB : B ≤ 100) (H : VEnd n0 τ M0 W (B + 1) f p ps tl t Q) : E (h + 8) mdX4_readAssign [.ref 14, .ref (ps.getD j 0), .long w] M Q := by
  have F := X.1.1
  have N := X.nz
  refine KX4_readAssign ?_
  unfold DX4_readAssign_0
  refine ⟨ok14 F, n0, N.2.2.2.2.2.1, N.2.2.1, S_varNamed X.env (fun _ => ⟨_, rfl, X.part hj, fun M7 e7 M8 e8 M9 e9 => ?_⟩)⟩
  have X9 := ((X.pt hj e7).pt hj e8).gu (Or.inl rfl) e9
  have F9 := X9.1.1
  have N9 := X9.nz
  refine ⟨15, rf14_0 F9, ok15 F9, V_expect X9 (by decide) (fun _ => ⟨rfl, n0, N9.2.2.2.2.2.1, N9.2.2.1, n0 + 22, N9.2.2.2.2.2.2.2.2.1, N9.2.2.2.2.1, fun M17 e17 => ?_⟩)⟩
  have X17 := X9.pt hj e17
  refine V_suM (h := h + 3) X17 hB (fun M2 X2 => ?_)
  have F2 := X2.1.1
  exact ⟨4, rf14_1 F2, ok4 F2, V_op X2 (fun Θ hT _ h1 => ⟨mkT Θ 0, ts_mk h1, fun Q' H' => S_mk F2 hT H'⟩) (fun M' v t' X' ht hv _ => ⟨_, rfl, H M' v t' X' ht hv⟩)⟩
theorem CX.ifs (X : CX n0 τ M0 W B M f p ps tl t) (e : M' = wI M n0 14 (mI M n0 14 + 1)) : CX n0 τ M0 W B M' f p ps tl t := by
  have N := X.nz
  obtain ⟨h1, γ, cn, h2, h3⟩ := X
  rw [h2.rd.2.2.2.2.1, succ32] at e
  exact ⟨TF_hi h1 (by rw [e]; exact fr_wI (S := fun c => 132 ≤ c) N.1), γ, va_up cn 2 (cn 2 + 1), h2.w0 (Or.inl rfl) e rfl rfl rfl rfl, h3⟩
theorem V_cmp (X : CX n0 τ M0 W B M f p ps tl t) (hj : j < ps.length) (hB : B ≤ 10) (H : ∀ M' v, CX n0 τ M0 W (B + 3) M' f p ps tl t → Q (some (.int v)) M') : E (h + 9) mdX4_readComparison [.ref 14, .ref (ps.getD j 0)] M Q := by
  refine KX4_readComparison ?_
  unfold DX4_readComparison_0
  refine ⟨X.part hj, fun M2 e2 => ?_⟩
  have X2 := X.pt hj e2
  have N2 := X2.nz
  refine ⟨ok14 X2.1.1, n0, N2.2.2.2.2.2.1, N2.2.2.1, fun M6 e6 => ?_⟩
  have X6 := X2.pt hj e6
  have N6 := X6.nz
  refine ⟨n0, N6.2.2.2.2.2.1, N6.2.2.1, fun M9 e9 => ?_⟩
  have X9 := X6.ifs e9
  have N9 := X9.nz
  refine ⟨n0, N9.2.2.2.2.2.1, N9.2.2.1, n0 + 22, N9.2.2.2.2.2.2.2.2.1, N9.2.2.2.2.1, fun M14 e14 => ?_⟩
  have X14 := X9.pt hj e14
  refine V_suM (h := h + 4) X14 (by omega) (fun M20 X20 => ?_)
  have F20 := X20.1.1
  refine ⟨15, rf14_0 F20, ok15 F20, fun M23 e23 => ?_⟩
  have X23 := X20.pt hj e23
  have F23 := X23.1.1
  refine ⟨15, rf14_0 F23, ok15 F23, fun _ => ?_, fun z => absurd (by rw [X23.1.2.2.2.2.2]; decide) z⟩
  unfold DX4_readComparison_93 DX4_readComparison_101
  have N := X23.nz
  refine ⟨ok14 F23, 15, rf14_0 F23, ok15 F23, V_fail X23 (fun _ => ⟨rfl, ok14 F23, 15, rf14_0 F23, ok15 F23, V_adv X23 (fun _ => ⟨rfl, n0, N.2.2.2.2.2.1, N.2.2.1, n0 + 22, N.2.2.2.2.2.2.2.2.1, N.2.2.2.2.1, X23.part hj, fun M3 e3 => ?_⟩)⟩)⟩
  have X3 := X23.pt hj e3
  refine V_suM (h := h + 4) X3 (by omega) (fun M4 X4 => ?_)
  have N4 := X4.nz
  exact ⟨n0, N4.2.2.2.2.2.1, N4.2.2.1, n0 + 8, N4.2.2.2.2.2.2.1, N4.2.2.2.1, V_if X4 (by omega) (fun M5 v X5 _ => ⟨_, rfl, H M5 v X5⟩)⟩
theorem V_body {d : Int32} (X : CX n0 τ M0 W B M f p ps tl t) (hj : j < ps.length) (hB : B ≤ 6) (H : VEnd n0 τ M0 W (B + 3) f p ps tl t Q) : E (h + 12) mdX4_readBody [.ref 14, .int k, .ref (ps.getD j 0), .int d] M Q := by
  have F := X.1.1
  have en : ∀ M' v t' B', CX n0 τ M0 W B' M' f p ps tl t' → B' ≤ B + 3 → t ≤ t' → v < t' → Q (some (.int (Int32.ofNat v))) M' := fun M' v t' B' X' q q1 q2 => H M' v t' (X'.mono (Nat.le_refl _) q) q1 q2
  have z0 : Q (some (.int 0)) M := en M 0 (Nat.max t 1) B X.one.2 (by omega) (Nat.le_max_left _ _) (Nat.lt_of_lt_of_le Nat.zero_lt_one (Nat.le_max_right _ _))
  have mk : ok M 14 6 ∧ ∃ b5 : Nat, mR M 14 1 = some b5 ∧ ok M b5 10 ∧ E (h + 11) mdX8_make [.ref b5, .int 0] M (fun r M7 => mE M M7 → ∃ r8 : Int32, r = some (.int r8) ∧ Q (some (.int r8)) M7) := ⟨ok14 F, 4, rf14_1 F, ok4 F, V_op X (fun Θ hT _ h1 => ⟨mkT Θ 0, ts_mk h1, fun Q' H' => S_mk F hT H'⟩) (fun M' v t' X' q1 q2 _ => ⟨_, rfl, en M' v t' B X' (by omega) q1 q2⟩)⟩
  refine KX4_readBody ?_
  unfold DX4_readBody_0
  exact ⟨fun _ => ⟨ok14 F, V_branches X hj (fun M' v t' X' q1 q2 _ => ⟨_, rfl, en M' v t' B X' (by omega) q1 q2⟩)⟩, fun _ => mk, fun _ => mk, fun _ => mk, fun _ => mk, fun _ => mk, fun _ => mk, fun _ => mk, fun _ => mk, fun _ => mk, fun _ => mk, fun _ => mk, fun _ => mk, fun _ => mk, fun _ => mk, fun _ => mk, fun _ => mk, fun _ => mk, fun _ => mk, fun _ => mk, fun _ => mk, fun _ => ⟨ok14 F, 4, rf14_1 F, ok4 F, V_op X (fun Θ hT _ h0 => ⟨paT Θ, ts_pa h0, fun Q' H' => S_pa F hT H'⟩) (fun M' v t' X' q1 q2 _ => ⟨_, rfl, en M' v t' B X' (by omega) q1 q2⟩)⟩, fun _ => ⟨ok14 F, 4, rf14_1 F, ok4 F, V_op X (fun Θ hT _ h0 => ⟨haT Θ, ts_ha h0, fun Q' H' => S_ha F hT H'⟩) (fun M' v t' X' q1 q2 _ => ⟨_, rfl, en M' v t' B X' (by omega) q1 q2⟩)⟩, fun _ => ⟨ok14 F, V_emit X (fun _ => ⟨_, rfl, z0⟩)⟩, fun _ => ⟨ok14 F, V_sust X (fun _ => ⟨_, rfl, z0⟩)⟩, fun _ => ⟨ok14 F, V_loop X hj (fun M' v t' X' q1 q2 _ => ⟨_, rfl, en M' v t' B X' (by omega) q1 q2⟩)⟩, fun _ => mk, fun _ => ⟨ok14 F, V_cond X (by omega) (fun _ => ⟨_, rfl, V_choice X (fun M' v t' X' q1 q2 _ => ⟨_, rfl, en M' v t' B X' (by omega) q1 q2⟩)⟩)⟩, fun _ => mk, fun _ => mk, fun _ => ⟨ok14 F, 15, rf14_0 F, ok15 F, V_accept X (by decide) (fun _ => ⟨_, rfl, 4, rf14_1 F, V_cond X (by omega) (fun _ => ⟨_, rfl, ok4 F, V_op X (fun Θ hT _ h0 => ⟨awT Θ 0 false, ts_aw h0, fun Q' H' => S_aw F hT H'⟩) (fun M' v t' X' q1 q2 _ => ⟨_, rfl, en M' v t' B X' (by omega) q1 q2⟩)⟩)⟩)⟩, fun _ => mk, fun _ => ⟨ok14 F, V_abort X (fun M' v t' X' q1 q2 _ => ⟨_, rfl, en M' v t' B X' (by omega) q1 q2⟩)⟩, fun _ => ⟨ok14 F, V_weak X (fun M' v t' X' q1 q2 _ => ⟨_, rfl, en M' v t' B X' (by omega) q1 q2⟩)⟩, fun _ => mk, fun _ => ⟨ok14 F, V_suspend X (fun M' v t' X' q1 q2 _ => ⟨_, rfl, en M' v t' B X' (by omega) q1 q2⟩)⟩, fun _ => ⟨ok14 F, V_every X (fun M' v t' X' q1 q2 _ => ⟨_, rfl, en M' v t' B X' (by omega) q1 q2⟩)⟩, fun _ => mk, fun _ => ⟨ok14 F, V_trap X (fun M' v t' X' q1 q2 _ => ⟨_, rfl, en M' v t' B X' (by omega) q1 q2⟩)⟩, fun _ => mk, fun _ => ⟨ok14 F, V_exit X (fun _ => ⟨_, rfl, z0⟩)⟩, fun _ => ⟨ok14 F, V_cmp X hj (by omega) (fun M1 l X1 _ => ⟨_, rfl, V_choice X1 (fun M' v t' X' q1 q2 _ => ⟨_, rfl, en M' v t' (B + 3) X' (by omega) q1 q2⟩)⟩)⟩, fun _ => mk⟩
/-- the end of a part -/
theorem V_136 (X : CX n0 τ M0 W B M f p ps tl t) (hj : j < ps.length) (hv : v < t) (H : VEnd n0 τ M0 W B f p ps tl t Q) : DX4_readPart_136 (h + 2) 14 k (ps.getD j 0) (ps.getD j 0) (Int32.ofNat v) M Q := by
  unfold DX4_readPart_136 DX4_readPart_153
  refine ⟨X.part hj, fun M2 e2 => ?_⟩
  have X2 := X.pt hj e2
  have F2 := X2.1.1
  have g : ps.getD j 0 ≠ 15 := by
    have q := X.nz.1
    obtain ⟨h1, γ, cn, h2, h3⟩ := X
    have := (h2.part hj).2.1
    omega
  have f1 : mI M2 (ps.getD j 0) 1 = Int32.ofNat v := by rw [e2, mI_wI, if_pos ⟨rfl, rfl⟩]
  refine S_stays (fun _ => ⟨_, rfl, fun _ => ⟨X2.part hj, ?_⟩, fun _ => ⟨ok14 F2, 15, rf14_0 F2, ok15 F2, F_closes X2.1 (fun M3 T3 k3 _ => ⟨rfl, (X2.tok k3 T3).part hj, ?_⟩)⟩⟩)
  · rw [f1]; exact H M2 v t X2 (Nat.le_refl _) hv
  · rw [(k3.row g).1, f1]
    exact H M3 v t (X2.tok k3 T3) (Nat.le_refl _) hv
/-- behind the begin of a part, a fault being there -/
theorem V_97 {d : Int32} (X : CX n0 τ M0 W B M f p ps tl t) (hj : j < ps.length) (hB : B ≤ 6) (H : VEnd n0 τ M0 W (B + 3) f p ps tl t Q) : DX4_readPart_97 (h + 12) 14 d k (ps.getD j 0) M Q := by
  have F := X.1.1
  unfold DX4_readPart_97
  refine ⟨ok14 F, 15, rf14_0 F, ok15 F, 15, rf14_0 F, ok15 F, V_adv X (fun _ => ⟨rfl, fun _ => ?_, fun _ => ?_⟩)⟩
  · exact V_body X hj hB (fun M' v t' X' q1 q2 _ => ⟨_, rfl, V_136 (h := h + 10) X' hj q2 (H.up q1)⟩)
  · exact V_asg (h := h + 4) X hj (by omega) (fun M' v t' X' q1 q2 _ => ⟨_, rfl, V_136 (h := h + 10) (X'.mono (Nat.le_refl _) (by omega)) hj q2 (H.up q1)⟩)
end
end
section
/-! the class begins a part -/
theorem op_ks {k : Int32} (h : opnK k = true) : k = 42 ∨ k = 44 ∨ k = 49 ∨ k = 50 ∨ k = 52 ∨ k = 53 ∨ k = 55 ∨ k = 58 ∨ k = 17 := by
  unfold opnK at h
  simp only [Bool.or_eq_true, beq_iff_eq] at h
  rcases h with (((((((h | h) | h) | h) | h) | h) | h) | h) | h
  · exact Or.inl h
  · exact Or.inr (Or.inl h)
  · exact Or.inr (Or.inr (Or.inl h))
  · exact Or.inr (Or.inr (Or.inr (Or.inl h)))
  · exact Or.inr (Or.inr (Or.inr (Or.inr (Or.inl h))))
  · exact Or.inr (Or.inr (Or.inr (Or.inr (Or.inr (Or.inl h)))))
  · exact Or.inr (Or.inr (Or.inr (Or.inr (Or.inr (Or.inr (Or.inl h))))))
  · exact Or.inr (Or.inr (Or.inr (Or.inr (Or.inr (Or.inr (Or.inr (Or.inl h)))))))
  · exact Or.inr (Or.inr (Or.inr (Or.inr (Or.inr (Or.inr (Or.inr (Or.inr h)))))))
theorem so_op {k : Int32} (h : opnK k = true) : soK k ≠ 99 := by
  rcases op_ks h with z | z | z | z | z | z | z | z | z <;> rw [z] <;> decide
theorem sal_ks {k : Int32} (h : sal k) : k = 37 ∨ k = 38 ∨ k = 39 ∨ k = 40 ∨ k = 41 ∨ k = 47 ∨ k = 57 := by
  rcases h with ⟨h1, h2⟩ | h | h
  · have a1 : 37 ≤ k.toInt := by
      have := Int32.not_lt.mp h1
      rw [Int32.le_iff_toInt_le] at this
      exact this
    have a2 : k.toInt ≤ 41 := by
      rw [Int32.le_iff_toInt_le] at h2
      exact h2
    rcases (show k.toInt = 37 ∨ k.toInt = 38 ∨ k.toInt = 39 ∨ k.toInt = 40 ∨ k.toInt = 41 by omega) with z | z | z | z | z
    · exact Or.inl (Int32.toInt_inj.mp z)
    · exact Or.inr (Or.inl (Int32.toInt_inj.mp z))
    · exact Or.inr (Or.inr (Or.inl (Int32.toInt_inj.mp z)))
    · exact Or.inr (Or.inr (Or.inr (Or.inl (Int32.toInt_inj.mp z))))
    · exact Or.inr (Or.inr (Or.inr (Or.inr (Or.inl (Int32.toInt_inj.mp z)))))
  · exact Or.inr (Or.inr (Or.inr (Or.inr (Or.inr (Or.inl h)))))
  · exact Or.inr (Or.inr (Or.inr (Or.inr (Or.inr (Or.inr h)))))
theorem so_sal {k : Int32} (h : sal k) : soK k ≠ 99 := by
  rcases sal_ks h with z | z | z | z | z | z | z <;> rw [z] <;> decide
theorem so_no {k : Int32} (h2 : k ≠ 2) (ho : ¬ opnK k = true) (hs : ¬ sal k) : soK k = 99 := by
  have a : ∀ c : Int32, opnK c = true → k ≠ c := fun c q z => ho (by rw [z]; exact q)
  have s : ∀ c : Int32, sal c → k ≠ c := fun c q z => hs (by rw [z]; exact q)
  unfold soK
  rw [if_neg (s 37 (Or.inl (by decide))), if_neg (s 38 (Or.inl (by decide))), if_neg (s 39 (Or.inl (by decide))), if_neg (s 40 (Or.inl (by decide))), if_neg (s 41 (Or.inl (by decide))), if_neg (a 42 (by decide)), if_neg (a 44 (by decide)), if_neg (s 47 (Or.inr (Or.inl rfl))), if_neg (a 49 (by decide)), if_neg (a 50 (by decide)), if_neg (a 52 (by decide)), if_neg (a 53 (by decide)), if_neg (a 55 (by decide)), if_neg (s 57 (Or.inr (Or.inr rfl))), if_neg (a 58 (by decide)), if_neg h2, if_neg (a 17 (by decide))]
theorem okK_d {k : Int32} {w : Int64} {d p : Nat} {τ : Td} {σ : PS} : okK k w d τ σ p = (okK k w 0 τ σ p).bind fun _ => if opnK k = true ∧ d = 15 then .error (6, p) else .ok () := by
  unfold okK
  by_cases h1 : k = 2 ∧ fd τ.2.2.2.1 w = none
  · rw [if_pos h1, if_pos h1]; rfl
  rw [if_neg h1, if_neg h1]
  by_cases h2 : soK k = 99
  · rw [if_pos h2, if_pos h2]; rfl
  rw [if_neg h2, if_neg h2]
  by_cases h3 : 40 ≤ npS σ ∨ 24 < σ.1.1 1 + paK k
  · rw [if_pos h3, if_pos h3]; rfl
  rw [if_neg h3, if_neg h3, if_neg (show ¬ (opnK k = true ∧ 0 = 15) from fun z => by omega)]
  rfl
section
variable {b : Nat → Int32} {n s n0 m : Nat} {τ : Td} {M0 M M' : Mem} {i o j g : Nat} {γ : ClT} {σ : PS} {K : List KE} {cn : Nat → Nat} {ps : List Nat} {tl : List Int64} {f k : Int32} {p t t' h B t0 t1 : Nat} {Q : Option Value → Mem → Prop} {Q1 : Int32 → Mem → Prop} {W : Nat}
theorem V_chk56 (X : CX n0 τ M0 W B M f p ps tl t) (H : Q none M) : DX4_checkBegin_56 (h + 2) 14 k M Q := by
  have F := X.1.1
  have N := X.nz
  have v85 : DX4_checkBegin_85 (h + 2) 14 M Q := by
    unfold DX4_checkBegin_85 DX4_checkBegin_94
    exact ⟨ok14 F, 15, rf14_0 F, ok15 F, V_fail X (fun _ => ⟨rfl, H⟩)⟩
  unfold DX4_checkBegin_56 DX4_checkBegin_94
  exact ⟨ok14 F, n0, N.2.2.2.2.2.1, N.2.2.1, n0 + 7, N.2.2.2.2.2.2.2.1, X.al, V_size X (fun _ => ⟨_, rfl, fun _ => v85, fun _ => S_pauses (fun _ => ⟨_, rfl, fun _ => H, fun _ => v85⟩)⟩)⟩
theorem Z_size (hC : CQ n0 τ M0 M γ cn ps tl) : ok M (n0 + 7) 1 ∧ ∀ Q' : Option Value → Mem → Prop, Q' (some (.int (Int32.ofNat ps.length))) M → E (h + 1) mdJx4a65c_size_8abf5 [.ref (n0 + 7)] M Q' := by
  obtain ⟨lc, rc, cc, pb, ib, h2⟩ := hC
  exact ⟨h2.2.2.2.1.1.1, fun Q' H => S_alSize h2.2.2.2.1.1 H⟩
theorem Z_check (hB : By b) (hC : CS b n s n0 τ M0 M i o σ.2.1 σ.1.1 ps tl) (h24 : σ.1.1 1 ≤ 24) (H1 : okK (tK b n i) (tC b n i) 0 τ σ (tP b n i) = .ok () → Q none M) (H0 : ∀ e, okK (tK b n i) (tC b n i) 0 τ σ (tP b n i) = .error e → ∀ M', CX n0 τ M0 (s + 70) 0 M' e.1 e.2 ps tl (trS σ).1 → Q none M') : E (h + 3) mdX4_checkBegin [.ref 14, .int (tK b n i)] M Q := by
  have F := hC.1.1
  have N := hC.2.1.nz
  have L := hC.len
  have pk : paK (tK b n i) ≤ 3 := by
    unfold paK
    by_cases z : tK b n i = 53
    · rw [if_pos z]; decide
    · rw [if_neg z]
      by_cases z2 : tK b n i = 38 ∨ tK b n i = 39 ∨ tK b n i = 41 ∨ tK b n i = 47 ∨ tK b n i = 49 ∨ tK b n i = 50
      · rw [if_pos z2]; decide
      · rw [if_neg z2]; decide
  have e4 : mI M 14 4 = Int32.ofNat (σ.1.1 1) := hC.2.1.rd.2.1
  have fl : ∀ c : Int32, c ≠ 0 → ∀ e : Int32 × Nat, e = (c, tP b n i) → okK (tK b n i) (tC b n i) 0 τ σ (tP b n i) = .error e → E (h + 2) mdX7_fail [.ref 15, .int c] M (fun r M1 => mE M M1 → r = none ∧ Q none M1 ∧ DX4_checkBegin_56 (h + 2) 14 (tK b n i) M1 Q) := by
    intro c hc e he ho
    refine Z_fail hC hc (fun M1 X1 _ => ?_)
    have q := H0 e ho M1 (by rw [he]; exact X1)
    exact ⟨rfl, q, V_chk56 X1 q⟩
  have go : ¬ (tK b n i = 2 ∧ fd τ.2.2.2.1 (tC b n i) = none) → soK (tK b n i) ≠ 99 → DX4_checkBegin_56 (h + 2) 14 (tK b n i) M Q := by
    intro q1 q2
    obtain ⟨oz, zs⟩ := Z_size (h := h + 1) hC.2.1
    unfold okK at H1 H0 fl
    rw [if_neg q1, if_neg q2] at H1 H0 fl
    have bad : (40 ≤ npS σ ∨ 24 < σ.1.1 1 + paK (tK b n i)) → DX4_checkBegin_85 (h + 2) 14 M Q := by
      intro z
      rw [if_pos z] at fl H0
      unfold DX4_checkBegin_85 DX4_checkBegin_94
      exact ⟨ok14 F, 15, rf14_0 F, ok15 F, Z_fail hC (by decide) (fun M1 X1 _ => ⟨rfl, H0 (6, tP b n i) rfl M1 X1⟩)⟩
    unfold DX4_checkBegin_56 DX4_checkBegin_94
    have np : npS σ = ps.length := L.2.2.2.1.symm
    refine ⟨ok14 F, n0, N.2.2.2.2.2.1, N.2.2.1, n0 + 7, N.2.2.2.2.2.2.2.1, oz, zs _ (fun _ => ⟨_, rfl, fun z => bad (Or.inl ?_), fun z => S_pauses (fun _ => ⟨_, rfl, fun z2 => ?_, fun z2 => bad (Or.inr ?_)⟩)⟩)⟩
    · have := (le32 (a := 40) (by decide) (by omega)).mp z
      omega
    · rw [e4, add32] at z2
      have z2 := (le32 (b := 24) (by omega) (by decide)).mp z2
      have z1 : ¬ 40 ≤ ps.length := fun y => z ((le32 (a := 40) (by decide) (by omega)).mpr y)
      rw [if_neg (show ¬ (40 ≤ npS σ ∨ 24 < σ.1.1 1 + paK (tK b n i)) by omega), if_neg (show ¬ (opnK (tK b n i) = true ∧ 0 = 15) from fun y => by omega)] at H1
      exact H1 rfl
    · rw [e4, add32] at z2
      have z1 : ¬ (σ.1.1 1 + paK (tK b n i)) ≤ 24 := fun y => z2 ((le32 (b := 24) (by omega) (by decide)).mpr y)
      omega
  refine KX4_checkBegin ?_
  unfold DX4_checkBegin_0
  refine ⟨fun k2 => S_stays (fun _ => ⟨_, rfl, fun z => ?_, fun z => S_alone (fun sa _ => ⟨_, rfl, fun _ => go (fun y => k2 y.1) (so_sal sa), fun y => absurd y (by decide)⟩) (fun sa _ => ⟨_, rfl, fun y => absurd rfl y, fun _ => ⟨ok14 F, 15, rf14_0 F, ok15 F, ?_⟩⟩)⟩), fun k2 => ⟨ok14 F, n0, N.2.2.2.2.2.1, 15, rf14_0 F, ok15 F, N.2.2.1, ?_⟩⟩
  · refine go (fun y => k2 y.1) (so_op ?_)
    by_cases q : opnK (tK b n i) = true
    · exact q
    · rw [if_neg q] at z; exact absurd rfl z
  · have no : ¬ opnK (tK b n i) = true := fun q => by rw [if_pos q] at z; exact absurd z (by decide)
    have e99 := so_no k2 no sa
    have ho : okK (tK b n i) (tC b n i) 0 τ σ (tP b n i) = .error (2, tP b n i) := by
      unfold okK
      rw [if_neg (fun y => k2 y.1), if_pos e99]
    refine Z_fail hC (by decide) (fun M1 X1 _ => ⟨rfl, V_chk56 X1 (H0 _ ho M1 X1)⟩)
  · rw [hC.1.word hB k2]
    refine S_varNamed hC.2.1.env (fun _ => ⟨_, rfl, fun z => ?_, fun z => ⟨15, rf14_0 F, ok15 F, ?_⟩⟩)
    · refine go (fun y => z ?_) (by rw [k2]; decide)
      rw [y.2]; rfl
    · have fn : fd τ.2.2.2.1 (tC b n i) = none := by
        cases e : fd τ.2.2.2.1 (tC b n i) with
        | none => rfl
        | some q =>
          rw [e] at z
          have := (fd_some e).1
          have := hC.2.1.env.2.1.2.2.2
          exact absurd z (oi_ne (by omega))
      have ho : okK (tK b n i) (tC b n i) 0 τ σ (tP b n i) = .error (4, tP b n i) := by
        unfold okK
        rw [if_pos ⟨k2, fn⟩]
      exact Z_fail hC (by decide) (fun M1 X1 _ => ⟨rfl, V_chk56 X1 (H0 _ ho M1 X1)⟩)
end
end
section
/-! the class begins a part: the new part -/
section
variable {b : Nat → Int32} {n s n0 m : Nat} {τ : Td} {M0 M M' : Mem} {i o j g : Nat} {γ : ClT} {σ : PS} {K : List KE} {cn cn' : Nat → Nat} {ps : List Nat} {tl : List Int64} {f k : Int32} {p t t' h B t0 t1 : Nat} {Q : Option Value → Mem → Prop} {Q1 : Int32 → Mem → Prop} {W : Nat}
/-- the class's counters once a part is begun: ifs are counted later -/
def cnB (m : Nat) (k : Int32) (pl q d : Nat) (wh : Int32) (σ : PS) : Nat → Nat := fun c => if c = 2 then σ.1.1 2 else (bgP m k pl q d wh σ).1.1 c
theorem CS.cnt (hC : CS b n s n0 τ M0 M i o γ cn ps tl) (e0 : cn' 0 = cn 0) (e1 : cn' 1 = cn 1) (e2 : cn' 2 = cn 2) (e3 : cn' 3 = cn 3) : CS b n s n0 τ M0 M i o γ cn' ps tl := ⟨hC.1, hC.2.1.cnt e0 e1 e2 e3, hC.2.2.1, hC.2.2.2.1, by rw [e2]; exact hC.2.2.2.2⟩
theorem Z_new {q d : Nat} {wh : Int32} {P : Mem → Prop} (hC : CS b n s n0 τ M0 M i o σ.2.1 σ.1.1 ps tl) (hn : npS σ < 40) (hp : σ.1.1 1 ≤ 24) (hd : d ≤ 15) (h3 : σ.1.1 3 ≤ 16) (H : ∀ M25, CS b n s n0 τ M0 M25 i o (bgP m (tK b n i) (tP b n i) q d wh σ).2.1 (cnB m (tK b n i) (tP b n i) q d wh σ) (ps ++ [mN M]) tl → P M25) : ∀ (q8 : Nat) (M7 : Mem), q8 = mN M → M7 = nwO M 5 13 → ∃ b9 : Nat, mR M7 14 0 = some b9 ∧ ok M7 b9 9 ∧ E (h + 6) mdX3_init [.ref q8, .int (mI M7 b9 10)] M7 (fun r M11 => mE M7 M11 → r = none ∧ ∃ b12 : Nat, mR M11 14 7 = some b12 ∧ ok M11 b12 3 ∧ ∃ b14 : Nat, mR M11 b12 6 = some b14 ∧ ok M11 b14 1 ∧ E (h + 6) mdJx4a65c_add_9ea2d [.ref b14, .ref q8] M11 (fun r M16 => mE M11 M16 → ∃ r17 : Int32, r = some (.int r17) ∧ ∃ b18 : Nat, mR M16 14 7 = some b18 ∧ ∃ b19 : Nat, mR M16 14 7 = some b19 ∧ ok M16 b19 3 ∧ ok M16 b18 3 ∧ ∀ M22, M22 = wI M16 b18 15 (if (mI M16 b19 15) < Int32.ofNat (d + 1) then Int32.ofNat (d + 1) else (mI M16 b19 15)) → E (h + 6) mdX4_pausesOf [.int (tK b n i)] M22 (fun r M23 => mE M22 M23 → ∃ r24 : Int32, r = some (.int r24) ∧ ∀ M25, M25 = wI M23 14 4 ((mI M22 14 4) + r24) → P M25))) := by
  intro q8 M7 e8 e7
  have F := hC.1.1
  have L := hC.len
  have N := hC.2.1.nz
  have F7 : Fix M7 := by rw [e7]; exact F.o
  obtain ⟨lc, rc, cc, pb, ib, hQ⟩ := id hC.2.1
  have big := hQ.big (by have := hC.2.2.1; omega) (by have := hC.2.2.2.1; omega)
  have f7 : ∀ S : Nat → Prop, fr S M M7 := fun S => by rw [e7]; exact fr_nwO
  have pl : mI M7 15 10 = Int32.ofNat (tP b n i) := by rw [((f7 (fun _ => False)).2 15 (by omega) (fun z => z)).1]; exact hC.1.2.2.2.2.2.2.1
  have o7 : ok M7 q8 5 := by rw [e7, e8]; exact ⟨Nat.lt_succ_self _, va_up_self _ _ _⟩
  refine ⟨15, rf14_0 F7, ok15 F7, ?_⟩
  rw [pl]
  refine KX3_init (h := h + 5) ?_
  unfold DX3_init_0
  refine ⟨o7, fun M11 e11 _ => ⟨rfl, ?_⟩⟩
  rw [e7, e8] at e11
  have f11 : ∀ S : Nat → Prop, fr S M M11 := fun S => by
    rw [e11]
    exact (fr_nwO (S := S)).tr (fr_wI (S := fun c => c = mN M) rfl) (fun a ha z => by omega)
  have row : ∀ a, a < mN M → sameRow M M11 a := fun a ha => (f11 (fun _ => False)).2 a ha (fun z => z)
  have E11 : mE M M11 := (f11 (fun _ => False)).1
  have A11 : ALp M11 (n0 + 7) pb 5 ps := alp_fr3 hQ.2.2.2.1.1 (f11 (fun _ => False)) (fun z => z) (fun _ z => z)
  have o11 : ok M11 q8 5 := by rw [e11, e8]; exact ⟨Nat.lt_succ_self _, va_up_self _ _ _⟩
  refine ⟨n0, by rw [(row 14 (by omega)).2.2.1]; exact N.2.2.2.2.2.1, ok_E N.2.2.1 E11, n0 + 7, by rw [(row n0 (by omega)).2.2.1]; exact N.2.2.2.2.2.2.2.1, A11.1, ?_⟩
  refine S_add A11 (by omega) (Or.inr (Or.inr (Or.inr rfl))) (Or.inl o11) (fun M16 pb' A16 F16 _ => ⟨_, rfl, ?_⟩)
  rw [e8] at A16
  have np : npS σ = ps.length := L.2.2.2.1.symm
  have hq16 := hQ.new (v := Int32.ofNat (tP b n i)) (by have := hC.2.2.1; omega) (by have := hC.2.2.2.1; omega) hn e11 F16 A16
  have C16 : CS b n s n0 τ M0 M16 i o (va_up σ.2.1.1 ps.length (fun f => if f = 0 then Int32.ofNat (tP b n i) else 0), σ.2.1.2) (va_up σ.1.1 0 (ps.length + 1)) (ps ++ [mN M]) tl := by
    refine ⟨TI_hi hC.1 ((f11 _).tr F16.1 (fun a ha z => ?_)), ⟨lc, rc, cc, pb', ib, hq16⟩, hC.2.2⟩
    have l3 := hQ.2.2.2.1.2.2.1
    rcases z with z | z
    · omega
    · omega
  have N16 := C16.2.1.nz
  refine ⟨n0, N16.2.2.2.2.2.1, n0, N16.2.2.2.2.2.1, N16.2.2.1, N16.2.2.1, fun M22 e22 => ?_⟩
  have e15 : mI M16 n0 15 = Int32.ofNat (σ.1.1 3) := C16.2.1.rd.2.2.2.2.2
  have dep : (if mI M16 n0 15 < Int32.ofNat (d + 1) then Int32.ofNat (d + 1) else mI M16 n0 15) = Int32.ofNat (if d + 1 ≤ σ.1.1 3 then σ.1.1 3 else d + 1) := by
    rw [e15]
    by_cases z : d + 1 ≤ σ.1.1 3
    · rw [if_pos z, if_neg (fun y => by have := (ltn32 (by omega) (by omega)).mp y; omega)]
    · rw [if_neg z, if_pos ((ltn32 (by omega) (by omega)).mpr (by omega))]
  rw [dep] at e22
  have C22 : CS b n s n0 τ M0 M22 i o (va_up σ.2.1.1 ps.length (fun f => if f = 0 then Int32.ofNat (tP b n i) else 0), σ.2.1.2) (va_up (va_up σ.1.1 0 (ps.length + 1)) 3 (if d + 1 ≤ σ.1.1 3 then σ.1.1 3 else d + 1)) (ps ++ [mN M]) tl := ⟨TI_hi C16.1 (by rw [e22]; exact fr_wI (S := fun c => 132 ≤ c) N.1), C16.2.1.w0 (Or.inr rfl) e22 rfl rfl rfl rfl, C16.2.2⟩
  refine S_pauses (fun _ => ⟨_, rfl, fun M25 e25 => ?_⟩)
  have e4 : mI M22 14 4 = Int32.ofNat (σ.1.1 1) := C22.2.1.rd.2.1
  rw [e4, add32] at e25
  refine H M25 ?_
  have C25 : CS b n s n0 τ M0 M25 i o (va_up σ.2.1.1 ps.length (fun f => if f = 0 then Int32.ofNat (tP b n i) else 0), σ.2.1.2) (va_up (va_up (va_up σ.1.1 0 (ps.length + 1)) 3 (if d + 1 ≤ σ.1.1 3 then σ.1.1 3 else d + 1)) 1 (σ.1.1 1 + paK (tK b n i))) (ps ++ [mN M]) tl := ⟨by rw [e25]; exact C22.1.fr C22.1.1.i w14 rfl rfl rfl rfl, C22.2.1.pv C22.1.1 e25, C22.2.2⟩
  have eb : (bgP m (tK b n i) (tP b n i) q d wh σ).2.1 = (va_up σ.2.1.1 ps.length (fun f => if f = 0 then Int32.ofNat (tP b n i) else 0), σ.2.1.2) := by
    show (va_up σ.2.1.1 (σ.1.1 0) _, σ.2.1.2) = _
    rw [show σ.1.1 0 = ps.length from np]
  rw [eb]
  refine C25.cnt ?_ ?_ ?_ ?_
  · simp [cnB, bgP, va_up, ← np, npS]
  · simp [cnB, bgP, va_up]
  · simp [cnB, va_up]
  · simp [cnB, bgP, va_up]
end
end
section
/-! the class reads parts: which method reads what stands behind the first token -/
def QB (M : Mem) (Q : Option Value → Mem → Prop) : Option Value → Mem → Prop := fun r M2 => mE M M2 → ∃ r3 : Int32, r = some (.int r3) ∧ Q (some (.int r3)) M2
section
variable {M : Mem} {x h : Nat} {d : Int32} {Q : Option Value → Mem → Prop}
theorem B_17 (F : Fix M) (H : E h mdX4_readBranches [.ref 14, .ref x, .int d] M (QB M Q)) : E (h + 1) mdX4_readBody [.ref 14, .int 17, .ref x, .int d] M Q := by
  refine KX4_readBody ?_
  unfold DX4_readBody_0
  exact ⟨fun _ => ⟨ok14 F, H⟩, fun z => absurd z (by decide), fun z => absurd z (by decide), fun z => absurd z (by decide), fun z => absurd z (by decide), fun z => absurd z (by decide), fun z => absurd z (by decide), fun z => absurd z (by decide), fun z => absurd z (by decide), fun z => absurd z (by decide), fun z => absurd z (by decide), fun z => absurd z (by decide), fun z => absurd z (by decide), fun z => absurd z (by decide), fun z => absurd z (by decide), fun z => absurd z (by decide), fun z => absurd z (by decide), fun z => absurd z (by decide), fun z => absurd z (by decide), fun z => absurd z (by decide), fun z => absurd z (by decide), fun z => absurd z (by decide), fun z => absurd z (by decide), fun z => absurd z (by decide), fun z => absurd z (by decide), fun z => absurd z (by decide), fun z => absurd z (by decide), fun z => absurd z (by decide), fun z => absurd z (by decide), fun z => absurd z (by decide), fun z => absurd z (by decide), fun z => absurd z (by decide), fun z => absurd z (by decide), fun z => absurd z (by decide), fun z => absurd z (by decide), fun z => absurd z (by decide), fun z => absurd z (by decide), fun z => absurd z (by decide), fun z => absurd z (by decide), fun z => absurd z (by decide), fun z => absurd z (by decide), fun z => absurd z (by decide), fun z => absurd z (by decide)⟩
theorem B_37 (F : Fix M) (H : ∃ b1 : Nat, mR M 14 1 = some b1 ∧ ok M b1 10 ∧ E h mdX8_make [.ref b1, .int 0] M (QB M Q)) : E (h + 1) mdX4_readBody [.ref 14, .int 37, .ref x, .int d] M Q := by
  refine KX4_readBody ?_
  unfold DX4_readBody_0
  exact ⟨fun z => absurd z (by decide), fun z => absurd z (by decide), fun z => absurd z (by decide), fun z => absurd z (by decide), fun z => absurd z (by decide), fun z => absurd z (by decide), fun z => absurd z (by decide), fun z => absurd z (by decide), fun z => absurd z (by decide), fun z => absurd z (by decide), fun z => absurd z (by decide), fun z => absurd z (by decide), fun z => absurd z (by decide), fun z => absurd z (by decide), fun z => absurd z (by decide), fun z => absurd z (by decide), fun z => absurd z (by decide), fun z => absurd z (by decide), fun z => absurd z (by decide), fun z => absurd z (by decide), fun _ => ⟨ok14 F, H⟩, fun z => absurd z (by decide), fun z => absurd z (by decide), fun z => absurd z (by decide), fun z => absurd z (by decide), fun z => absurd z (by decide), fun z => absurd z (by decide), fun z => absurd z (by decide), fun z => absurd z (by decide), fun z => absurd z (by decide), fun z => absurd z (by decide), fun z => absurd z (by decide), fun z => absurd z (by decide), fun z => absurd z (by decide), fun z => absurd z (by decide), fun z => absurd z (by decide), fun z => absurd z (by decide), fun z => absurd z (by decide), fun z => absurd z (by decide), fun z => absurd z (by decide), fun z => absurd z (by decide), fun z => absurd z (by decide), fun z => absurd z (by decide)⟩
theorem B_38 (F : Fix M) (H : ∃ b1 : Nat, mR M 14 1 = some b1 ∧ ok M b1 10 ∧ E h mdX8_pauseNode [.ref b1] M (QB M Q)) : E (h + 1) mdX4_readBody [.ref 14, .int 38, .ref x, .int d] M Q := by
  refine KX4_readBody ?_
  unfold DX4_readBody_0
  exact ⟨fun z => absurd z (by decide), fun z => absurd z (by decide), fun z => absurd z (by decide), fun z => absurd z (by decide), fun z => absurd z (by decide), fun z => absurd z (by decide), fun z => absurd z (by decide), fun z => absurd z (by decide), fun z => absurd z (by decide), fun z => absurd z (by decide), fun z => absurd z (by decide), fun z => absurd z (by decide), fun z => absurd z (by decide), fun z => absurd z (by decide), fun z => absurd z (by decide), fun z => absurd z (by decide), fun z => absurd z (by decide), fun z => absurd z (by decide), fun z => absurd z (by decide), fun z => absurd z (by decide), fun z => absurd z (by decide), fun _ => ⟨ok14 F, H⟩, fun z => absurd z (by decide), fun z => absurd z (by decide), fun z => absurd z (by decide), fun z => absurd z (by decide), fun z => absurd z (by decide), fun z => absurd z (by decide), fun z => absurd z (by decide), fun z => absurd z (by decide), fun z => absurd z (by decide), fun z => absurd z (by decide), fun z => absurd z (by decide), fun z => absurd z (by decide), fun z => absurd z (by decide), fun z => absurd z (by decide), fun z => absurd z (by decide), fun z => absurd z (by decide), fun z => absurd z (by decide), fun z => absurd z (by decide), fun z => absurd z (by decide), fun z => absurd z (by decide), fun z => absurd z (by decide)⟩
theorem B_39 (F : Fix M) (H : ∃ b1 : Nat, mR M 14 1 = some b1 ∧ ok M b1 10 ∧ E h mdX8_halt [.ref b1] M (QB M Q)) : E (h + 1) mdX4_readBody [.ref 14, .int 39, .ref x, .int d] M Q := by
  refine KX4_readBody ?_
  unfold DX4_readBody_0
  exact ⟨fun z => absurd z (by decide), fun z => absurd z (by decide), fun z => absurd z (by decide), fun z => absurd z (by decide), fun z => absurd z (by decide), fun z => absurd z (by decide), fun z => absurd z (by decide), fun z => absurd z (by decide), fun z => absurd z (by decide), fun z => absurd z (by decide), fun z => absurd z (by decide), fun z => absurd z (by decide), fun z => absurd z (by decide), fun z => absurd z (by decide), fun z => absurd z (by decide), fun z => absurd z (by decide), fun z => absurd z (by decide), fun z => absurd z (by decide), fun z => absurd z (by decide), fun z => absurd z (by decide), fun z => absurd z (by decide), fun z => absurd z (by decide), fun _ => ⟨ok14 F, H⟩, fun z => absurd z (by decide), fun z => absurd z (by decide), fun z => absurd z (by decide), fun z => absurd z (by decide), fun z => absurd z (by decide), fun z => absurd z (by decide), fun z => absurd z (by decide), fun z => absurd z (by decide), fun z => absurd z (by decide), fun z => absurd z (by decide), fun z => absurd z (by decide), fun z => absurd z (by decide), fun z => absurd z (by decide), fun z => absurd z (by decide), fun z => absurd z (by decide), fun z => absurd z (by decide), fun z => absurd z (by decide), fun z => absurd z (by decide), fun z => absurd z (by decide), fun z => absurd z (by decide)⟩
theorem B_40 (F : Fix M) (H : E h mdX4_readEmit [.ref 14, .ref x] M (QB M Q)) : E (h + 1) mdX4_readBody [.ref 14, .int 40, .ref x, .int d] M Q := by
  refine KX4_readBody ?_
  unfold DX4_readBody_0
  exact ⟨fun z => absurd z (by decide), fun z => absurd z (by decide), fun z => absurd z (by decide), fun z => absurd z (by decide), fun z => absurd z (by decide), fun z => absurd z (by decide), fun z => absurd z (by decide), fun z => absurd z (by decide), fun z => absurd z (by decide), fun z => absurd z (by decide), fun z => absurd z (by decide), fun z => absurd z (by decide), fun z => absurd z (by decide), fun z => absurd z (by decide), fun z => absurd z (by decide), fun z => absurd z (by decide), fun z => absurd z (by decide), fun z => absurd z (by decide), fun z => absurd z (by decide), fun z => absurd z (by decide), fun z => absurd z (by decide), fun z => absurd z (by decide), fun z => absurd z (by decide), fun _ => ⟨ok14 F, H⟩, fun z => absurd z (by decide), fun z => absurd z (by decide), fun z => absurd z (by decide), fun z => absurd z (by decide), fun z => absurd z (by decide), fun z => absurd z (by decide), fun z => absurd z (by decide), fun z => absurd z (by decide), fun z => absurd z (by decide), fun z => absurd z (by decide), fun z => absurd z (by decide), fun z => absurd z (by decide), fun z => absurd z (by decide), fun z => absurd z (by decide), fun z => absurd z (by decide), fun z => absurd z (by decide), fun z => absurd z (by decide), fun z => absurd z (by decide), fun z => absurd z (by decide)⟩
theorem B_41 (F : Fix M) (H : E h mdX4_readSustain [.ref 14] M (QB M Q)) : E (h + 1) mdX4_readBody [.ref 14, .int 41, .ref x, .int d] M Q := by
  refine KX4_readBody ?_
  unfold DX4_readBody_0
  exact ⟨fun z => absurd z (by decide), fun z => absurd z (by decide), fun z => absurd z (by decide), fun z => absurd z (by decide), fun z => absurd z (by decide), fun z => absurd z (by decide), fun z => absurd z (by decide), fun z => absurd z (by decide), fun z => absurd z (by decide), fun z => absurd z (by decide), fun z => absurd z (by decide), fun z => absurd z (by decide), fun z => absurd z (by decide), fun z => absurd z (by decide), fun z => absurd z (by decide), fun z => absurd z (by decide), fun z => absurd z (by decide), fun z => absurd z (by decide), fun z => absurd z (by decide), fun z => absurd z (by decide), fun z => absurd z (by decide), fun z => absurd z (by decide), fun z => absurd z (by decide), fun z => absurd z (by decide), fun _ => ⟨ok14 F, H⟩, fun z => absurd z (by decide), fun z => absurd z (by decide), fun z => absurd z (by decide), fun z => absurd z (by decide), fun z => absurd z (by decide), fun z => absurd z (by decide), fun z => absurd z (by decide), fun z => absurd z (by decide), fun z => absurd z (by decide), fun z => absurd z (by decide), fun z => absurd z (by decide), fun z => absurd z (by decide), fun z => absurd z (by decide), fun z => absurd z (by decide), fun z => absurd z (by decide), fun z => absurd z (by decide), fun z => absurd z (by decide), fun z => absurd z (by decide)⟩
theorem B_42 (F : Fix M) (H : E h mdX4_readLoop [.ref 14, .ref x, .int d] M (QB M Q)) : E (h + 1) mdX4_readBody [.ref 14, .int 42, .ref x, .int d] M Q := by
  refine KX4_readBody ?_
  unfold DX4_readBody_0
  exact ⟨fun z => absurd z (by decide), fun z => absurd z (by decide), fun z => absurd z (by decide), fun z => absurd z (by decide), fun z => absurd z (by decide), fun z => absurd z (by decide), fun z => absurd z (by decide), fun z => absurd z (by decide), fun z => absurd z (by decide), fun z => absurd z (by decide), fun z => absurd z (by decide), fun z => absurd z (by decide), fun z => absurd z (by decide), fun z => absurd z (by decide), fun z => absurd z (by decide), fun z => absurd z (by decide), fun z => absurd z (by decide), fun z => absurd z (by decide), fun z => absurd z (by decide), fun z => absurd z (by decide), fun z => absurd z (by decide), fun z => absurd z (by decide), fun z => absurd z (by decide), fun z => absurd z (by decide), fun z => absurd z (by decide), fun _ => ⟨ok14 F, H⟩, fun z => absurd z (by decide), fun z => absurd z (by decide), fun z => absurd z (by decide), fun z => absurd z (by decide), fun z => absurd z (by decide), fun z => absurd z (by decide), fun z => absurd z (by decide), fun z => absurd z (by decide), fun z => absurd z (by decide), fun z => absurd z (by decide), fun z => absurd z (by decide), fun z => absurd z (by decide), fun z => absurd z (by decide), fun z => absurd z (by decide), fun z => absurd z (by decide), fun z => absurd z (by decide), fun z => absurd z (by decide)⟩
theorem B_44 (F : Fix M) (H : E h mdX4_readCondition [.ref 14] M (fun r M1 => mE M M1 → ∃ r1 : Int32, r = some (.int r1) ∧ E h mdX4_readChoice [.ref 14, .int r1, .int d] M1 (QB M1 Q))) : E (h + 1) mdX4_readBody [.ref 14, .int 44, .ref x, .int d] M Q := by
  refine KX4_readBody ?_
  unfold DX4_readBody_0
  exact ⟨fun z => absurd z (by decide), fun z => absurd z (by decide), fun z => absurd z (by decide), fun z => absurd z (by decide), fun z => absurd z (by decide), fun z => absurd z (by decide), fun z => absurd z (by decide), fun z => absurd z (by decide), fun z => absurd z (by decide), fun z => absurd z (by decide), fun z => absurd z (by decide), fun z => absurd z (by decide), fun z => absurd z (by decide), fun z => absurd z (by decide), fun z => absurd z (by decide), fun z => absurd z (by decide), fun z => absurd z (by decide), fun z => absurd z (by decide), fun z => absurd z (by decide), fun z => absurd z (by decide), fun z => absurd z (by decide), fun z => absurd z (by decide), fun z => absurd z (by decide), fun z => absurd z (by decide), fun z => absurd z (by decide), fun z => absurd z (by decide), fun z => absurd z (by decide), fun _ => ⟨ok14 F, H⟩, fun z => absurd z (by decide), fun z => absurd z (by decide), fun z => absurd z (by decide), fun z => absurd z (by decide), fun z => absurd z (by decide), fun z => absurd z (by decide), fun z => absurd z (by decide), fun z => absurd z (by decide), fun z => absurd z (by decide), fun z => absurd z (by decide), fun z => absurd z (by decide), fun z => absurd z (by decide), fun z => absurd z (by decide), fun z => absurd z (by decide), fun z => absurd z (by decide)⟩
theorem B_47 (F : Fix M) (H : E h mdX7_accept [.ref 15, .int 48] M (fun r M9 => mE M M9 → ∃ r10 : Int32, r = some (.int r10) ∧ ∃ b11 : Nat, mR M9 14 1 = some b11 ∧ E h mdX4_readCondition [.ref 14] M9 (fun r M11 => mE M9 M11 → ∃ r12 : Int32, r = some (.int r12) ∧ ok M11 b11 10 ∧ E h mdX8_await [.ref b11, .int r12, .int r10] M11 (QB M11 Q)))) : E (h + 1) mdX4_readBody [.ref 14, .int 47, .ref x, .int d] M Q := by
  refine KX4_readBody ?_
  unfold DX4_readBody_0
  exact ⟨fun z => absurd z (by decide), fun z => absurd z (by decide), fun z => absurd z (by decide), fun z => absurd z (by decide), fun z => absurd z (by decide), fun z => absurd z (by decide), fun z => absurd z (by decide), fun z => absurd z (by decide), fun z => absurd z (by decide), fun z => absurd z (by decide), fun z => absurd z (by decide), fun z => absurd z (by decide), fun z => absurd z (by decide), fun z => absurd z (by decide), fun z => absurd z (by decide), fun z => absurd z (by decide), fun z => absurd z (by decide), fun z => absurd z (by decide), fun z => absurd z (by decide), fun z => absurd z (by decide), fun z => absurd z (by decide), fun z => absurd z (by decide), fun z => absurd z (by decide), fun z => absurd z (by decide), fun z => absurd z (by decide), fun z => absurd z (by decide), fun z => absurd z (by decide), fun z => absurd z (by decide), fun z => absurd z (by decide), fun z => absurd z (by decide), fun _ => ⟨ok14 F, 15, rf14_0 F, ok15 F, H⟩, fun z => absurd z (by decide), fun z => absurd z (by decide), fun z => absurd z (by decide), fun z => absurd z (by decide), fun z => absurd z (by decide), fun z => absurd z (by decide), fun z => absurd z (by decide), fun z => absurd z (by decide), fun z => absurd z (by decide), fun z => absurd z (by decide), fun z => absurd z (by decide), fun z => absurd z (by decide)⟩
theorem B_49 (F : Fix M) (H : E h mdX4_readAbort [.ref 14, .int d] M (QB M Q)) : E (h + 1) mdX4_readBody [.ref 14, .int 49, .ref x, .int d] M Q := by
  refine KX4_readBody ?_
  unfold DX4_readBody_0
  exact ⟨fun z => absurd z (by decide), fun z => absurd z (by decide), fun z => absurd z (by decide), fun z => absurd z (by decide), fun z => absurd z (by decide), fun z => absurd z (by decide), fun z => absurd z (by decide), fun z => absurd z (by decide), fun z => absurd z (by decide), fun z => absurd z (by decide), fun z => absurd z (by decide), fun z => absurd z (by decide), fun z => absurd z (by decide), fun z => absurd z (by decide), fun z => absurd z (by decide), fun z => absurd z (by decide), fun z => absurd z (by decide), fun z => absurd z (by decide), fun z => absurd z (by decide), fun z => absurd z (by decide), fun z => absurd z (by decide), fun z => absurd z (by decide), fun z => absurd z (by decide), fun z => absurd z (by decide), fun z => absurd z (by decide), fun z => absurd z (by decide), fun z => absurd z (by decide), fun z => absurd z (by decide), fun z => absurd z (by decide), fun z => absurd z (by decide), fun z => absurd z (by decide), fun z => absurd z (by decide), fun _ => ⟨ok14 F, H⟩, fun z => absurd z (by decide), fun z => absurd z (by decide), fun z => absurd z (by decide), fun z => absurd z (by decide), fun z => absurd z (by decide), fun z => absurd z (by decide), fun z => absurd z (by decide), fun z => absurd z (by decide), fun z => absurd z (by decide), fun z => absurd z (by decide)⟩
theorem B_50 (F : Fix M) (H : E h mdX4_readWeak [.ref 14, .int d] M (QB M Q)) : E (h + 1) mdX4_readBody [.ref 14, .int 50, .ref x, .int d] M Q := by
  refine KX4_readBody ?_
  unfold DX4_readBody_0
  exact ⟨fun z => absurd z (by decide), fun z => absurd z (by decide), fun z => absurd z (by decide), fun z => absurd z (by decide), fun z => absurd z (by decide), fun z => absurd z (by decide), fun z => absurd z (by decide), fun z => absurd z (by decide), fun z => absurd z (by decide), fun z => absurd z (by decide), fun z => absurd z (by decide), fun z => absurd z (by decide), fun z => absurd z (by decide), fun z => absurd z (by decide), fun z => absurd z (by decide), fun z => absurd z (by decide), fun z => absurd z (by decide), fun z => absurd z (by decide), fun z => absurd z (by decide), fun z => absurd z (by decide), fun z => absurd z (by decide), fun z => absurd z (by decide), fun z => absurd z (by decide), fun z => absurd z (by decide), fun z => absurd z (by decide), fun z => absurd z (by decide), fun z => absurd z (by decide), fun z => absurd z (by decide), fun z => absurd z (by decide), fun z => absurd z (by decide), fun z => absurd z (by decide), fun z => absurd z (by decide), fun z => absurd z (by decide), fun _ => ⟨ok14 F, H⟩, fun z => absurd z (by decide), fun z => absurd z (by decide), fun z => absurd z (by decide), fun z => absurd z (by decide), fun z => absurd z (by decide), fun z => absurd z (by decide), fun z => absurd z (by decide), fun z => absurd z (by decide), fun z => absurd z (by decide)⟩
theorem B_52 (F : Fix M) (H : E h mdX4_readSuspend [.ref 14, .int d] M (QB M Q)) : E (h + 1) mdX4_readBody [.ref 14, .int 52, .ref x, .int d] M Q := by
  refine KX4_readBody ?_
  unfold DX4_readBody_0
  exact ⟨fun z => absurd z (by decide), fun z => absurd z (by decide), fun z => absurd z (by decide), fun z => absurd z (by decide), fun z => absurd z (by decide), fun z => absurd z (by decide), fun z => absurd z (by decide), fun z => absurd z (by decide), fun z => absurd z (by decide), fun z => absurd z (by decide), fun z => absurd z (by decide), fun z => absurd z (by decide), fun z => absurd z (by decide), fun z => absurd z (by decide), fun z => absurd z (by decide), fun z => absurd z (by decide), fun z => absurd z (by decide), fun z => absurd z (by decide), fun z => absurd z (by decide), fun z => absurd z (by decide), fun z => absurd z (by decide), fun z => absurd z (by decide), fun z => absurd z (by decide), fun z => absurd z (by decide), fun z => absurd z (by decide), fun z => absurd z (by decide), fun z => absurd z (by decide), fun z => absurd z (by decide), fun z => absurd z (by decide), fun z => absurd z (by decide), fun z => absurd z (by decide), fun z => absurd z (by decide), fun z => absurd z (by decide), fun z => absurd z (by decide), fun z => absurd z (by decide), fun _ => ⟨ok14 F, H⟩, fun z => absurd z (by decide), fun z => absurd z (by decide), fun z => absurd z (by decide), fun z => absurd z (by decide), fun z => absurd z (by decide), fun z => absurd z (by decide), fun z => absurd z (by decide)⟩
theorem B_53 (F : Fix M) (H : E h mdX4_readEvery [.ref 14, .int d] M (QB M Q)) : E (h + 1) mdX4_readBody [.ref 14, .int 53, .ref x, .int d] M Q := by
  refine KX4_readBody ?_
  unfold DX4_readBody_0
  exact ⟨fun z => absurd z (by decide), fun z => absurd z (by decide), fun z => absurd z (by decide), fun z => absurd z (by decide), fun z => absurd z (by decide), fun z => absurd z (by decide), fun z => absurd z (by decide), fun z => absurd z (by decide), fun z => absurd z (by decide), fun z => absurd z (by decide), fun z => absurd z (by decide), fun z => absurd z (by decide), fun z => absurd z (by decide), fun z => absurd z (by decide), fun z => absurd z (by decide), fun z => absurd z (by decide), fun z => absurd z (by decide), fun z => absurd z (by decide), fun z => absurd z (by decide), fun z => absurd z (by decide), fun z => absurd z (by decide), fun z => absurd z (by decide), fun z => absurd z (by decide), fun z => absurd z (by decide), fun z => absurd z (by decide), fun z => absurd z (by decide), fun z => absurd z (by decide), fun z => absurd z (by decide), fun z => absurd z (by decide), fun z => absurd z (by decide), fun z => absurd z (by decide), fun z => absurd z (by decide), fun z => absurd z (by decide), fun z => absurd z (by decide), fun z => absurd z (by decide), fun z => absurd z (by decide), fun _ => ⟨ok14 F, H⟩, fun z => absurd z (by decide), fun z => absurd z (by decide), fun z => absurd z (by decide), fun z => absurd z (by decide), fun z => absurd z (by decide), fun z => absurd z (by decide)⟩
theorem B_55 (F : Fix M) (H : E h mdX4_readTrap [.ref 14, .int d] M (QB M Q)) : E (h + 1) mdX4_readBody [.ref 14, .int 55, .ref x, .int d] M Q := by
  refine KX4_readBody ?_
  unfold DX4_readBody_0
  exact ⟨fun z => absurd z (by decide), fun z => absurd z (by decide), fun z => absurd z (by decide), fun z => absurd z (by decide), fun z => absurd z (by decide), fun z => absurd z (by decide), fun z => absurd z (by decide), fun z => absurd z (by decide), fun z => absurd z (by decide), fun z => absurd z (by decide), fun z => absurd z (by decide), fun z => absurd z (by decide), fun z => absurd z (by decide), fun z => absurd z (by decide), fun z => absurd z (by decide), fun z => absurd z (by decide), fun z => absurd z (by decide), fun z => absurd z (by decide), fun z => absurd z (by decide), fun z => absurd z (by decide), fun z => absurd z (by decide), fun z => absurd z (by decide), fun z => absurd z (by decide), fun z => absurd z (by decide), fun z => absurd z (by decide), fun z => absurd z (by decide), fun z => absurd z (by decide), fun z => absurd z (by decide), fun z => absurd z (by decide), fun z => absurd z (by decide), fun z => absurd z (by decide), fun z => absurd z (by decide), fun z => absurd z (by decide), fun z => absurd z (by decide), fun z => absurd z (by decide), fun z => absurd z (by decide), fun z => absurd z (by decide), fun z => absurd z (by decide), fun _ => ⟨ok14 F, H⟩, fun z => absurd z (by decide), fun z => absurd z (by decide), fun z => absurd z (by decide), fun z => absurd z (by decide)⟩
theorem B_57 (F : Fix M) (H : E h mdX4_readExit [.ref 14] M (QB M Q)) : E (h + 1) mdX4_readBody [.ref 14, .int 57, .ref x, .int d] M Q := by
  refine KX4_readBody ?_
  unfold DX4_readBody_0
  exact ⟨fun z => absurd z (by decide), fun z => absurd z (by decide), fun z => absurd z (by decide), fun z => absurd z (by decide), fun z => absurd z (by decide), fun z => absurd z (by decide), fun z => absurd z (by decide), fun z => absurd z (by decide), fun z => absurd z (by decide), fun z => absurd z (by decide), fun z => absurd z (by decide), fun z => absurd z (by decide), fun z => absurd z (by decide), fun z => absurd z (by decide), fun z => absurd z (by decide), fun z => absurd z (by decide), fun z => absurd z (by decide), fun z => absurd z (by decide), fun z => absurd z (by decide), fun z => absurd z (by decide), fun z => absurd z (by decide), fun z => absurd z (by decide), fun z => absurd z (by decide), fun z => absurd z (by decide), fun z => absurd z (by decide), fun z => absurd z (by decide), fun z => absurd z (by decide), fun z => absurd z (by decide), fun z => absurd z (by decide), fun z => absurd z (by decide), fun z => absurd z (by decide), fun z => absurd z (by decide), fun z => absurd z (by decide), fun z => absurd z (by decide), fun z => absurd z (by decide), fun z => absurd z (by decide), fun z => absurd z (by decide), fun z => absurd z (by decide), fun z => absurd z (by decide), fun z => absurd z (by decide), fun _ => ⟨ok14 F, H⟩, fun z => absurd z (by decide), fun z => absurd z (by decide)⟩
theorem B_58 (F : Fix M) (H : E h mdX4_readComparison [.ref 14, .ref x] M (fun r M1 => mE M M1 → ∃ r1 : Int32, r = some (.int r1) ∧ E h mdX4_readChoice [.ref 14, .int r1, .int d] M1 (QB M1 Q))) : E (h + 1) mdX4_readBody [.ref 14, .int 58, .ref x, .int d] M Q := by
  refine KX4_readBody ?_
  unfold DX4_readBody_0
  exact ⟨fun z => absurd z (by decide), fun z => absurd z (by decide), fun z => absurd z (by decide), fun z => absurd z (by decide), fun z => absurd z (by decide), fun z => absurd z (by decide), fun z => absurd z (by decide), fun z => absurd z (by decide), fun z => absurd z (by decide), fun z => absurd z (by decide), fun z => absurd z (by decide), fun z => absurd z (by decide), fun z => absurd z (by decide), fun z => absurd z (by decide), fun z => absurd z (by decide), fun z => absurd z (by decide), fun z => absurd z (by decide), fun z => absurd z (by decide), fun z => absurd z (by decide), fun z => absurd z (by decide), fun z => absurd z (by decide), fun z => absurd z (by decide), fun z => absurd z (by decide), fun z => absurd z (by decide), fun z => absurd z (by decide), fun z => absurd z (by decide), fun z => absurd z (by decide), fun z => absurd z (by decide), fun z => absurd z (by decide), fun z => absurd z (by decide), fun z => absurd z (by decide), fun z => absurd z (by decide), fun z => absurd z (by decide), fun z => absurd z (by decide), fun z => absurd z (by decide), fun z => absurd z (by decide), fun z => absurd z (by decide), fun z => absurd z (by decide), fun z => absurd z (by decide), fun z => absurd z (by decide), fun z => absurd z (by decide), fun _ => ⟨ok14 F, H⟩, fun z => absurd z (by decide)⟩
end
section
variable {b : Nat → Int32} {n s n0 m : Nat} {τ : Td} {M0 M M' : Mem} {i o j g : Nat} {γ : ClT} {σ : PS} {K : List KE} {cn cn' : Nat → Nat} {ps : List Nat} {tl : List Int64} {f k : Int32} {w : Int64} {p t t' h B t0 t1 : Nat} {Q : Option Value → Mem → Prop} {Q1 Q2 : Int32 → Mem → Prop} {W : Nat}
theorem EdP.q {R : Except (Int32 × Nat) (Nat × PS × Nat)} (hE : EdP b n s n0 τ M0 o ps tl t0 Q1 R) (hq : ∀ v M', Q1 v M' → Q2 v M') : EdP b n s n0 τ M0 o ps tl t0 Q2 R := by
  cases R with
  | error y => exact fun M' ps' v t X he hv h1 => hq _ _ (hE M' ps' v t X he hv h1)
  | ok r => exact fun M' ps' C he => hq _ _ (hE M' ps' C he)
theorem EdP.qb {R : Except (Int32 × Nat) (Nat × PS × Nat)} (hE : EdP b n s n0 τ M0 o ps tl t0 (fun v M' => Q (some (.int v)) M') R) : EdP b n s n0 τ M0 o ps tl t0 (fun v M' => QB M Q (some (.int v)) M') R := hE.q (fun v M' q _ => ⟨v, rfl, q⟩)
theorem bdM_42 : bdM b n m τ g K i 42 w j σ = (rp b n m τ g 0 ((40 * m + j, σ.1.1 4, 1, none) :: K) i (rwP (40 * m + j) none σ) 0 0 0 0 0 0).bind fun q => tlM b n m τ 42 j 0 0 q.2.2 q.1 (K.length + 1) q.2.1 := rfl
theorem bdM_49 : bdM b n m τ g K i 49 w j σ = (rp b n m τ g 0 ((40 * m + j, σ.1.1 4, 1, some 0) :: K) i (rwP (40 * m + j) none σ) 0 0 0 0 0 0).bind fun q => tlM b n m τ 49 j 0 0 q.2.2 q.1 (K.length + 1) q.2.1 := rfl
theorem bdM_52 : bdM b n m τ g K i 52 w j σ = (rp b n m τ g 0 ((40 * m + j, σ.1.1 4, 1, none) :: K) i (rwP (40 * m + j) none σ) 0 0 0 0 0 0).bind fun q => tlM b n m τ 52 j 0 0 q.2.2 q.1 (K.length + 1) q.2.1 := rfl
theorem bdM_50 : bdM b n m τ g K i 50 w j σ = (ex b n i 49).bind fun i2 => (rp b n m τ g 0 ((40 * m + j, σ.1.1 4, 1, some 0) :: K) i2 (rwP (40 * m + j) none σ) 0 0 0 0 0 0).bind fun q => tlM b n m τ 50 j 0 0 q.2.2 q.1 (K.length + 1) q.2.1 := by
  show ((ex b n i 49).bind _).bind _ = _
  rw [ebA]
  rfl
theorem bdM_53 : bdM b n m τ g K i 53 w j σ = (atM b n m τ j i (K.length + 1) σ).bind fun r => (ex b n r.1 54).bind fun i2 => (rp b n m τ g 0 ((40 * m + j, r.2.1.1.1 4, 1, some 0) :: K) i2 (rwP (40 * m + j) none (trP1 r.2.1 (awT (trS r.2.1) (Int32.ofNat r.2.2.1) r.2.2.2).1)) 0 0 0 0 0 0).bind fun q => tlM b n m τ 53 j (awT (trS r.2.1) (Int32.ofNat r.2.2.1) r.2.2.2).2 r.2.2.1 q.2.2 q.1 (K.length + 1) q.2.1 := by
  show ((atM b n m τ j i (K.length + 1) σ).bind _).bind _ = _
  rw [ebA]
  refine congrArg (Except.bind _) (funext fun r => ?_)
  rw [ebA]
  rfl
theorem bdM_55 : bdM b n m τ g K i 55 w j σ = if tK b n i = 2 then (if toT (tC b n i) τ = true ∨ (trW K (tC b n i)).isSome = true then .error (3, tP b n i) else ((adv' b n i).bind fun i2 => ex b n i2 56).bind fun i3 => (rp b n m τ g 0 ((40 * m + j, σ.1.1 4, 1, some (tC b n i)) :: K) i3 (rwP (40 * m + j) none ((σ.1.1, σ.1.2.1, va_up σ.1.2.2 (40 * m + j) (rV b n (tP b n i))), σ.2)) 0 0 0 0 0 0).bind fun q => tlM b n m τ 55 j 0 0 q.2.2 q.1 (K.length + 1) q.2.1) else .error (2, tP b n i) := by
  show (if tK b n i = 2 then _ else _ : Except (Int32 × Nat) (Nat × PS × Nat × Bool × Nat × Option Int64)).bind _ = _
  by_cases h1 : tK b n i = 2
  · rw [if_pos h1, if_pos h1]
    by_cases h2 : toT (tC b n i) τ = true ∨ (trW K (tC b n i)).isSome = true
    · rw [if_pos h2, if_pos h2]; rfl
    · rw [if_neg h2, if_neg h2, ebA, ebA]
      refine congrArg (Except.bind _) (funext fun i2 => ?_)
      rw [ebA]
      rfl
  · rw [if_neg h1, if_neg h1]; rfl
theorem bdM_44 : bdM b n m τ g K i 44 w j σ = (coM b n m τ j i (K.length + 1) σ).bind fun r => (ex b n r.1 45).bind fun i2 => (rp b n m τ g 0 ((40 * m + j, r.2.1.1.1 4, 1, none) :: K) i2 (rwP (40 * m + j) none r.2.1) 0 0 0 0 0 0).bind fun q => if tK b n q.1 = 46 then (adv' b n q.1).bind fun i3 => (rp b n m τ g 0 ((40 * m + j, q.2.1.1.1 4, 2, none) :: K) i3 (rwP (40 * m + j) (some (r.2.1.1.1 4)) q.2.1) 0 0 0 0 0 0).bind fun u => chM b n r.2.2 q.2.2 u.2.2 u.1 u.2.1 else chM b n r.2.2 q.2.2 (mkT (trS q.2.1) 0).2 q.1 (trP1 q.2.1 (mkT (trS q.2.1) 0).1) := by
  show ((coM b n m τ j i (K.length + 1) σ).bind _).bind _ = _
  rw [ebA]
  refine congrArg (Except.bind _) (funext fun r => ?_)
  rw [ebA]
  rfl
theorem bdM_58 : bdM b n m τ g K i 58 w j σ = (cmM b n m τ j i (K.length + 1) σ).bind fun r => (ex b n r.1 45).bind fun i2 => (rp b n m τ g 0 ((40 * m + j, r.2.1.1.1 4, 1, none) :: K) i2 (rwP (40 * m + j) none r.2.1) 0 0 0 0 0 0).bind fun q => if tK b n q.1 = 46 then (adv' b n q.1).bind fun i3 => (rp b n m τ g 0 ((40 * m + j, q.2.1.1.1 4, 2, none) :: K) i3 (rwP (40 * m + j) (some (r.2.1.1.1 4)) q.2.1) 0 0 0 0 0 0).bind fun u => chM b n r.2.2 q.2.2 u.2.2 u.1 u.2.1 else chM b n r.2.2 q.2.2 (mkT (trS q.2.1) 0).2 q.1 (trP1 q.2.1 (mkT (trS q.2.1) 0).1) := by
  show (hdM b n m τ 58 j i K σ).bind _ = _
  rw [hdM_58, ebA]
  refine congrArg (Except.bind _) (funext fun r => ?_)
  rw [ebA]
  rfl
theorem bdM_17 : bdM b n m τ g K i 17 w j σ = (rp b n m τ g 3 K i (rwP (40 * m + j) none (trP1 σ (mkT (trS σ) 8).1)) (mkT (trS σ) 8).2 j (σ.1.1 4) 1 0 0).bind fun q => .ok (q.1, guP q.2.1 (giS σ ||| giS q.2.1) (usS σ ||| usS q.2.1), q.2.2) := rfl
end
end
section
/-! the class reads parts: bodies -/
section
variable {b : Nat → Int32} {n s n0 m : Nat} {τ : Td} {M0 M M1 M' : Mem} {i o j g a2 a3 H : Nat} {γ : ClT} {σ σ0 : PS} {K : List KE} {cn cn' : Nat → Nat} {ps ps1 : List Nat} {tl : List Int64} {f k : Int32} {w : Int64} {p t t' h B t0 t1 : Nat} {Q : Option Value → Mem → Prop} {Q1 Q2 : Int32 → Mem → Prop} {W : Nat}
/-- what is known when a part with rows is begun -/
def Bgn (b : Nat → Int32) (n s m : Nat) (τ : Td) (K : List KE) (i : Nat) (σ σ0 : PS) (g : Nat) : Prop := (i ≤ s ∧ tK b n i ≠ 0 ∧ tK b n (i + 1) ≠ 0) ∧ RpI m 2 K σ 0 0 ∧ okK (tK b n i) (tC b n i) K.length τ σ (tP b n i) = .ok () ∧ opnK (tK b n i) = true ∧ 6 * (s + 1 - i) ≤ g + 1 ∧ σ0 = bgP m (tK b n i) (tP b n i) (sqK K) K.length (whK (tK b n i) (tC b n i) τ) σ
theorem hK_s (K : List KE) (e : KE) (h : K.length ≤ 15) : hK (e :: K) + 6 = hK K := by
  unfold hK
  show 100 + 6 * (16 - (K.length + 1)) + 6 = 100 + 6 * (16 - K.length)
  omega
theorem Bgn.i0 {r : Nat × PS × Nat × Bool × Nat × Option Int64} (hS : Sto b n s) (G : Bgn b n s m τ K i σ σ0 g) (e : hdM b n m τ (tK b n i) (npS σ) (i + 1) K σ0 = .ok r) : (tK b n r.1 ≠ 0 ∧ r.1 ≤ s ∧ i < r.1) ∧ RpI m 0 ((40 * m + npS σ, r.2.1.1.1 4, 1, r.2.2.2.2.2) :: K) (rwP (40 * m + npS σ) none r.2.1) 0 0 ∧ K.length ≤ 14 ∧ npS (rwP (40 * m + npS σ) none r.2.1) = npS σ + 1 ∧ σ.1.1 4 ≤ npS σ + 1 ∧ (1 ≤ (trS σ).1 → (trS σ).1 ≤ (trS r.2.1).1 ∧ r.2.2.2.2.1 < (trS r.2.1).1) := by
  obtain ⟨⟨hi, h0, ha⟩, hI, ho, hop, hg, rfl⟩ := G
  obtain ⟨q1, okw, ⟨n1, n2, n3⟩, ⟨hl, o3⟩, hw, -⟩ := hc_facts hS hi h0 hI ho ha hop e
  have hc := hI.2.2.2.2.2
  exact ⟨q1, ⟨okw, by show K.length + 1 ≤ 15; omega, fun _ => by show r.2.1.1.1 4 < _; rw [n2, n3]; exact Nat.lt_succ_self _, fun z => absurd z (by decide), fun z => absurd z (by decide), by rw [n2, n1]; omega⟩, hl, n1, hc, hw⟩
/-- the first row of a part -/
theorem row_go {r : Nat × PS × Nat × Bool × Nat × Option Int64} (hS : Sto b n s) (ih : RcS b n s n0 m τ M0 g) (G : Bgn b n s m τ K i σ σ0 g) (e : hdM b n m τ (tK b n i) (npS σ) (i + 1) K σ0 = .ok r) (hH : hK K ≤ H + 5) (C : CS b n s n0 τ M0 M1 r.1 (K.length + 1) r.2.1.2.1 r.2.1.1.1 ps1 (tlK ((40 * m + npS σ, r.2.1.1.1 4, 1, r.2.2.2.2.2) :: K))) (hE : EdP b n s n0 τ M0 (K.length + 1) ps1 (tlK ((40 * m + npS σ, r.2.1.1.1 4, 1, r.2.2.2.2.2) :: K)) (trS r.2.1).1 (fun v M' => Q (some (.int v)) M') (rp b n m τ g 0 ((40 * m + npS σ, r.2.1.1.1 4, 1, r.2.2.2.2.2) :: K) r.1 (rwP (40 * m + npS σ) none r.2.1) 0 0 0 0 0 0)) : E H mdX4_readSeq [.ref 14, .int (Int32.ofNat (K.length + 1))] M1 Q := by
  obtain ⟨⟨q1, q2, q3⟩, I0, hl, -⟩ := G.i0 hS e
  have hg := G.2.2.2.2.1
  have hk := hK_s K (40 * m + npS σ, r.2.1.1.1 4, 1, r.2.2.2.2.2) (by omega)
  exact ih.1 ((40 * m + npS σ, r.2.1.1.1 4, 1, r.2.2.2.2.2) :: K) r.1 (rwP (40 * m + npS σ) none r.2.1) 0 0 0 0 0 0 M1 ps1 H Q I0 (C.cnt rfl rfl rfl rfl) (by omega) (by omega) hE
theorem row_ok {r : Nat × PS × Nat × Bool × Nat × Option Int64} {q : Nat × PS × Nat} (hS : Sto b n s) (G : Bgn b n s m τ K i σ σ0 g) (e : hdM b n m τ (tK b n i) (npS σ) (i + 1) K σ0 = .ok r) (t1 : 1 ≤ (trS r.2.1).1) (eq : rp b n m τ g 0 ((40 * m + npS σ, r.2.1.1.1 4, 1, r.2.2.2.2.2) :: K) r.1 (rwP (40 * m + npS σ) none r.2.1) 0 0 0 0 0 0 = .ok q) : (trS r.2.1).1 ≤ (trS q.2.1).1 ∧ q.2.2 < (trS q.2.1).1 ∧ (r.1 < q.1 ∧ q.1 ≤ s ∧ tK b n q.1 ≠ 0) ∧ PsOk m q.2.1 ∧ q.2.1.1.1 4 ≤ npS q.2.1 ∧ npS σ + 1 ≤ npS q.2.1 := by
  obtain ⟨⟨q1, q2, q3⟩, I0, hl, n1, -⟩ := G.i0 hS e
  have ok0 := rp_ok (τ := τ) (m := m) hS g 0 ((40 * m + npS σ, r.2.1.1.1 4, 1, r.2.2.2.2.2) :: K) r.1 (rwP (40 * m + npS σ) none r.2.1) 0 0 0 0 0 0 (by decide) q2 q1 I0
  rw [eq] at ok0
  obtain ⟨k1, k2, k3, ⟨p1, p2, p3, p4⟩, k5⟩ := ok0
  have a1 : (trS r.2.1).1 ≤ (trS q.2.1).1 := p1.2.2.2.2 t1
  exact ⟨a1, p4 t1 (fun z => by omega), ⟨k5 (by decide), k2, k3⟩, p2, p3, by have := p1.1; rw [n1] at this; exact this⟩
/-- the second row of a choice -/
theorem row_go2 {r : Nat × PS × Nat × Bool × Nat × Option Int64} {q : Nat × PS × Nat} (hS : Sto b n s) (ih : RcS b n s n0 m τ M0 g) (G : Bgn b n s m τ K i σ σ0 g) (e : hdM b n m τ (tK b n i) (npS σ) (i + 1) K σ0 = .ok r) (t1 : 1 ≤ (trS r.2.1).1) (eq : rp b n m τ g 0 ((40 * m + npS σ, r.2.1.1.1 4, 1, r.2.2.2.2.2) :: K) r.1 (rwP (40 * m + npS σ) none r.2.1) 0 0 0 0 0 0 = .ok q) (k46 : tK b n q.1 = 46) {i3 : Nat} (ea : adv' b n q.1 = .ok i3) : (∀ (H : Nat) (M1 : Mem) (ps1 : List Nat) (Q : Option Value → Mem → Prop), hK K ≤ H + 5 → CS b n s n0 τ M0 M1 i3 (K.length + 1) q.2.1.2.1 q.2.1.1.1 ps1 (tlK K) → EdP b n s n0 τ M0 (K.length + 1) ps1 (tlK K) (trS q.2.1).1 (fun v M' => Q (some (.int v)) M') (rp b n m τ g 0 ((40 * m + npS σ, q.2.1.1.1 4, 2, none) :: K) i3 (rwP (40 * m + npS σ) (some (r.2.1.1.1 4)) q.2.1) 0 0 0 0 0 0) → E H mdX4_readSeq [.ref 14, .int (Int32.ofNat (K.length + 1))] M1 Q) ∧ ∀ u, rp b n m τ g 0 ((40 * m + npS σ, q.2.1.1.1 4, 2, none) :: K) i3 (rwP (40 * m + npS σ) (some (r.2.1.1.1 4)) q.2.1) 0 0 0 0 0 0 = .ok u → (trS q.2.1).1 ≤ (trS u.2.1).1 ∧ u.2.2 < (trS u.2.1).1 := by
  obtain ⟨⟨q1, q2, q3⟩, I0, hl, n1, -⟩ := G.i0 hS e
  obtain ⟨w1, w2, ⟨w3, w4, w5⟩, w6, w7, w8⟩ := row_ok hS G e t1 eq
  have hg := G.2.2.2.2.1
  have hk := hK_s K (40 * m + npS σ, q.2.1.1.1 4, 2, none) (by omega)
  obtain ⟨rfl, ha2⟩ := adv_is ea
  have hs := hS.lt w4 w5 (by rw [k46]; decide)
  obtain ⟨z1, z2, -⟩ := rw_n (σ := q.2.1) (p := 40 * m + npS σ) (q0 := some (r.2.1.1.1 4))
  have I2 : RpI m 0 ((40 * m + npS σ, q.2.1.1.1 4, 2, none) :: K) (rwP (40 * m + npS σ) (some (r.2.1.1.1 4)) q.2.1) 0 0 := ⟨w6.rw, by show K.length + 1 ≤ 15; omega, fun _ => by show q.2.1.1.1 4 < _; rw [z2]; exact Nat.lt_succ_self _, fun z => absurd z (by decide), fun z => absurd z (by decide), by rw [z2, z1]; omega⟩
  refine ⟨fun H M1 ps1 Q hH C hE => ih.1 ((40 * m + npS σ, q.2.1.1.1 4, 2, none) :: K) (q.1 + 1) (rwP (40 * m + npS σ) (some (r.2.1.1.1 4)) q.2.1) 0 0 0 0 0 0 M1 ps1 H Q I2 (C.cnt rfl rfl rfl rfl) (by omega) (by omega) hE, fun u eu => ?_⟩
  have ok0 := rp_ok (τ := τ) (m := m) hS g 0 ((40 * m + npS σ, q.2.1.1.1 4, 2, none) :: K) (q.1 + 1) (rwP (40 * m + npS σ) (some (r.2.1.1.1 4)) q.2.1) 0 0 0 0 0 0 (by decide) hs ha2 I2
  rw [eu] at ok0
  obtain ⟨k1, k2, k3, ⟨p1, p2, p3, p4⟩, k5⟩ := ok0
  have t2 : 1 ≤ (trS q.2.1).1 := Nat.le_trans t1 w1
  exact ⟨p1.2.2.2.2 t2, p4 t2 (fun z => by omega)⟩
/-- a part without rows -/
theorem Z_leaf {H : Nat} {d : Int32} (hB : By b) (hS : Sto b n s) (hC : CS b n s n0 τ M0 M i K.length σ.2.1 σ.1.1 ps (tlK K)) (hj : j < ps.length) (ho : K.length ≤ 15) (hk : sal k) (hH : 90 ≤ H) (hE : EdP b n s n0 τ M0 K.length ps (tlK K) (trS σ).1 (fun v M' => Q (some (.int v)) M') (lfM b n m τ k w j i K σ)) : E H mdX4_readBody [.ref 14, .int k, .ref (ps.getD j 0), .int d] M Q := by
  obtain ⟨H, rfl⟩ : ∃ H', H = H' + 89 + 1 := ⟨H - 90, by omega⟩
  have F := hC.1.1
  rcases sal_ks hk with z | z | z | z | z | z | z <;> subst z
  · refine B_37 F ⟨4, rf14_1 F, ok4 F, S_mk F hC.2.1.trp (fun M1 T1 k1 _ => ⟨_, rfl, ?_⟩)⟩
    have hE : EdP b n s n0 τ M0 K.length ps (tlK K) (trS σ).1 (fun v M' => Q (some (.int v)) M') (.ok (i, trP1 σ (mkT (trS σ) 0).1, (mkT (trS σ) 0).2)) := hE
    exact hE.ok' (hC.tree k1 T1)
  · refine B_38 F ⟨4, rf14_1 F, ok4 F, S_pa F hC.2.1.trp (fun M1 T1 k1 _ => ⟨_, rfl, ?_⟩)⟩
    have hE : EdP b n s n0 τ M0 K.length ps (tlK K) (trS σ).1 (fun v M' => Q (some (.int v)) M') (.ok (i, trP1 σ (paT (trS σ)).1, (paT (trS σ)).2)) := hE
    exact hE.ok' (hC.tree k1 T1)
  · refine B_39 F ⟨4, rf14_1 F, ok4 F, S_ha F hC.2.1.trp (fun M1 T1 k1 _ => ⟨_, rfl, ?_⟩)⟩
    have hE : EdP b n s n0 τ M0 K.length ps (tlK K) (trS σ).1 (fun v M' => Q (some (.int v)) M') (.ok (i, trP1 σ (haT (trS σ)).1, (haT (trS σ)).2)) := hE
    exact hE.ok' (hC.tree k1 T1)
  · exact B_40 F (Z_emit (m := m) (w := w) hB hS hC hj ho (by omega) hE.qb)
  · exact B_41 F (Z_sust (m := m) (w := w) (j := j) hB hS hC (by omega) hE.qb)
  · exact B_47 F (Z_await (h := H + 29) (m := m) (w := w) (j := j) hB hS hC ho hE)
  · exact B_57 F (Z_exit (m := m) (w := w) (j := j) hB hS hC (by omega) hE.qb)
end
end
section
/-! the class reads parts: bodies with rows -/
section
variable {b : Nat → Int32} {n s n0 m : Nat} {τ : Td} {M0 M M1 M' : Mem} {i o j g a2 a3 H : Nat} {γ : ClT} {σ σ0 : PS} {K : List KE} {cn cn' : Nat → Nat} {ps ps1 : List Nat} {tl : List Int64} {f k : Int32} {w : Int64} {p t t' h B t0 t1 : Nat} {Q : Option Value → Mem → Prop} {Q1 Q2 : Int32 → Mem → Prop} {W : Nat}
theorem tlK_n {a c d : Nat} : tlK ((a, c, d, none) :: K) = tlK K := rfl
theorem tlK_s {a c d : Nat} {x : Int64} : tlK ((a, c, d, some x) :: K) = x :: tlK K := rfl
theorem tlK_len : (tlK K).length ≤ K.length := List.length_filterMap_le _ _
/-- a choice, its condition being read -/
theorem O_choice {r : Nat × PS × Nat} (hB : By b) (hS : Sto b n s) (ih : RcS b n s n0 m τ M0 g) (G : Bgn b n s m τ K i σ σ0 g) (kc : tK b n i = 44 ∨ tK b n i = 58) (he : ∀ i2, ex b n r.1 45 = .ok i2 → hdM b n m τ (tK b n i) (npS σ) (i + 1) K σ0 = .ok (i2, r.2.1, r.2.2, false, 0, none)) (hC : CS b n s n0 τ M0 M r.1 (K.length + 1) r.2.1.2.1 r.2.1.1.1 ps1 (tlK K)) (ht : t0 ≤ (trS r.2.1).1) (hH : hK K ≤ H + 4) (hE : EdP b n s n0 τ M0 (K.length + 1) ps1 (tlK K) t0 (fun v M' => Q (some (.int v)) M') ((ex b n r.1 45).bind fun i2 => (rp b n m τ g 0 ((40 * m + npS σ, r.2.1.1.1 4, 1, none) :: K) i2 (rwP (40 * m + npS σ) none r.2.1) 0 0 0 0 0 0).bind fun q => if tK b n q.1 = 46 then (adv' b n q.1).bind fun i3 => (rp b n m τ g 0 ((40 * m + npS σ, q.2.1.1.1 4, 2, none) :: K) i3 (rwP (40 * m + npS σ) (some (r.2.1.1.1 4)) q.2.1) 0 0 0 0 0 0).bind fun u => chM b n r.2.2 q.2.2 u.2.2 u.1 u.2.1 else chM b n r.2.2 q.2.2 (mkT (trS q.2.1) 0).2 q.1 (trP1 q.2.1 (mkT (trS q.2.1) 0).1))) : E (H + 1) mdX4_readChoice [.ref 14, .int (Int32.ofNat r.2.2), .int (Int32.ofNat (K.length + 1))] M Q := by
  have hh : 100 ≤ hK K := Nat.le_add_right _ _
  have tt : 1 ≤ (trS r.2.1).1 := hC.t1
  refine Z_choice (R1 := fun i2 => rp b n m τ g 0 ((40 * m + npS σ, r.2.1.1.1 4, 1, none) :: K) i2 (rwP (40 * m + npS σ) none r.2.1) 0 0 0 0 0 0) (R2 := fun q i3 => rp b n m τ g 0 ((40 * m + npS σ, q.2.1.1.1 4, 2, none) :: K) i3 (rwP (40 * m + npS σ) (some (r.2.1.1.1 4)) q.2.1) 0 0 0 0 0 0) hS hC (by omega) ht ?_ ?_ ?_ ?_ hE
  · intro i2 M' Q' e45 C' hq
    exact row_go hS ih G (he i2 e45) (by omega) C' hq
  · intro i2 q e45 eq
    have := row_ok hS G (he i2 e45) tt eq
    exact ⟨this.1, this.2.1⟩
  · intro i2 q i3 ps' M' Q' e45 eq k46 ea C' hq
    exact (row_go2 hS ih G (he i2 e45) tt eq k46 ea).1 H M' ps' Q' (by omega) C' hq
  · intro i2 q i3 u e45 eq k46 ea eu
    exact (row_go2 (n0 := n0) (M0 := M0) hS ih G (he i2 e45) tt eq k46 ea).2 u eu
theorem Z_open (hB : By b) (hS : Sto b n s) (ih : RcS b n s n0 m τ M0 g) (G : Bgn b n s m τ K i σ σ0 g) (hC : CS b n s n0 τ M0 M (i + 1) (K.length + 1) σ0.2.1 cn ps1 (tlK K)) (hj : npS σ < ps1.length) (hc : cn 0 = σ0.1.1 0 ∧ cn 1 = σ0.1.1 1 ∧ cn 3 = σ0.1.1 3) (hc2 : tK b n i ≠ 58 → cn 2 = σ0.1.1 2) (hc3 : tK b n i = 58 → cn 2 + 1 = σ0.1.1 2) (h40 : σ0.1.1 2 ≤ 40) (hH : hK K ≤ H + 2) (hE : EdP b n s n0 τ M0 (K.length + 1) ps1 (tlK K) (trS σ0).1 (fun v M' => Q (some (.int v)) M') (bdM b n m τ g K (i + 1) (tK b n i) (tC b n i) (npS σ) σ0)) : E H mdX4_readBody [.ref 14, .int (tK b n i), .ref (ps1.getD (npS σ) 0), .int (Int32.ofNat (K.length + 1))] M Q := by
  have hh : 100 ≤ hK K := Nat.le_add_right _ _
  obtain ⟨H, rfl⟩ : ∃ H', H = H' + 94 + 1 + 1 + 1 := ⟨H - 97, by omega⟩
  have F := hC.1.1
  have hop := G.2.2.2.1
  have K15 : K.length ≠ 15 := fun z => (okK_ok G.2.2.1).2.2.2.2 ⟨hop, z⟩
  have ho : K.length + 1 ≤ 15 := by have := G.2.1.2.1; omega
  have tt : 1 ≤ (trS σ0).1 := hC.t1
  have t16 : (tlK K).length < 16 := by have := tlK_len (K := K); omega
  have nil : ∃ x, ps1 = ps1 ++ x := ⟨[], (List.append_nil _).symm⟩
  have C0 : tK b n i ≠ 58 → CS b n s n0 τ M0 M (i + 1) (K.length + 1) σ0.2.1 σ0.1.1 ps1 (tlK K) := fun z => hC.cnt hc.1.symm hc.2.1.symm (hc2 z).symm hc.2.2.symm
  rcases op_ks hop with kk | kk | kk | kk | kk | kk | kk | kk | kk
  · -- loop
    have C0 := C0 (by rw [kk]; decide)
    have e : hdM b n m τ (tK b n i) (npS σ) (i + 1) K σ0 = .ok (i + 1, σ0, 0, false, 0, none) := by rw [kk]; rfl
    rw [kk, bdM_42] at hE
    rw [kk]
    refine B_42 F (Z_loop (H := H + 94 + 1) (t0 := (trS σ0).1) (m := m) hS C0 hj (by omega) (fun Q' hq => row_go hS ih G e (by omega) C0 hq) (fun q eq => ?_) hE.qb)
    have := row_ok hS G e tt eq
    exact ⟨this.1, this.2.1⟩
  · -- present
    have C0 := C0 (by rw [kk]; decide)
    rw [kk, bdM_44] at hE
    have kc : tK b n i = 44 ∨ tK b n i = 58 := Or.inl kk
    have he : ∀ r, coM b n m τ (npS σ) (i + 1) (K.length + 1) σ0 = .ok r → ∀ i2, ex b n r.1 45 = .ok i2 → hdM b n m τ (tK b n i) (npS σ) (i + 1) K σ0 = .ok (i2, r.2.1, r.2.2, false, 0, none) := by
      intro r e1 i2 e45
      rw [kk]
      show (coM b n m τ (npS σ) (i + 1) (K.length + 1) σ0).bind _ = _
      rw [e1]
      show (ex b n r.1 45).bind _ = _
      rw [e45]
      rfl
    rw [kk]
    refine B_44 F (Z_coM (j := npS σ) (m := m) hB hS C0 ho (by omega) ?_)
    cases e1 : coM b n m τ (npS σ) (i + 1) (K.length + 1) σ0 with
    | error y =>
      rw [e1] at hE
      exact fun M1 v X1 _ => ⟨_, rfl, V_choice X1 (EdP.vend (EdP.qb hE) nil (by decide) (Nat.le_refl _))⟩
    | ok r =>
      rw [e1] at hE
      obtain ⟨c1, c2⟩ := coM_cl e1
      intro M1 C1 _
      rw [← c1] at C1
      exact ⟨_, rfl, O_choice (H := H + 94 + 1) hB hS ih G kc (he r e1) C1 (by rw [c2]; exact Nat.le_refl _) (by omega) (EdP.qb hE)⟩
  · -- abort
    have C0 := C0 (by rw [kk]; decide)
    have e : hdM b n m τ (tK b n i) (npS σ) (i + 1) K σ0 = .ok (i + 1, σ0, 0, false, 0, some 0) := by rw [kk]; rfl
    rw [kk, bdM_49] at hE
    rw [kk]
    refine B_49 F (Z_abort (H := H + 94 + 1) (t0 := (trS σ0).1) (m := m) hB hS C0 ho (by omega) (fun Q' hq => Z_trapped (H := H + 94) C0 t16 (fun M' Q'' C' hq' => row_go hS ih G e (by omega) C' hq') hq) (fun q eq => ?_) hE.qb)
    have := row_ok hS G e tt eq
    exact ⟨this.1, this.2.1⟩
  · -- weak abort
    have C0 := C0 (by rw [kk]; decide)
    have e : ∀ i2, ex b n (i + 1) 49 = .ok i2 → hdM b n m τ (tK b n i) (npS σ) (i + 1) K σ0 = .ok (i2, σ0, 0, false, 0, some 0) := by
      intro i2 e49
      rw [kk]
      show (ex b n (i + 1) 49).bind _ = _
      rw [e49]
      rfl
    rw [kk, bdM_50] at hE
    rw [kk]
    refine B_50 F (Z_weak (R1 := fun i2 => rp b n m τ g 0 ((40 * m + npS σ, σ0.1.1 4, 1, some 0) :: K) i2 (rwP (40 * m + npS σ) none σ0) 0 0 0 0 0 0) (H := H + 94 + 1) (t0 := (trS σ0).1) (m := m) hB hS C0 ho (by omega) (Nat.le_refl _) (fun i2 M1 Q' e49 C1 hq => Z_trapped (H := H + 94) C1 t16 (fun M' Q'' C' hq' => row_go hS ih G (e i2 e49) (by omega) C' hq') hq) (fun i2 q e49 eq => ?_) hE.qb)
    have := row_ok hS G (e i2 e49) tt eq
    exact ⟨this.1, this.2.1⟩
  · -- suspend
    have C0 := C0 (by rw [kk]; decide)
    have e : hdM b n m τ (tK b n i) (npS σ) (i + 1) K σ0 = .ok (i + 1, σ0, 0, false, 0, none) := by rw [kk]; rfl
    rw [kk, bdM_52] at hE
    rw [kk]
    refine B_52 F (Z_susp (H := H + 94 + 1) (t0 := (trS σ0).1) (m := m) hB hS C0 ho (by omega) (fun Q' hq => row_go hS ih G e (by omega) C0 hq) (fun q eq => ?_) hE.qb)
    have := row_ok hS G e tt eq
    exact ⟨this.1, this.2.1⟩
  · -- every
    have C0 := C0 (by rw [kk]; decide)
    have e : ∀ r i2, atM b n m τ (npS σ) (i + 1) (K.length + 1) σ0 = .ok r → ex b n r.1 54 = .ok i2 → hdM b n m τ (tK b n i) (npS σ) (i + 1) K σ0 = .ok (i2, trP1 r.2.1 (awT (trS r.2.1) (Int32.ofNat r.2.2.1) r.2.2.2).1, r.2.2.1, r.2.2.2, (awT (trS r.2.1) (Int32.ofNat r.2.2.1) r.2.2.2).2, some 0) := by
      intro r i2 e1 e54
      rw [kk]
      show (atM b n m τ (npS σ) (i + 1) (K.length + 1) σ0).bind _ = _
      rw [e1]
      show (ex b n r.1 54).bind _ = _
      rw [e54]
      rfl
    rw [kk, bdM_53] at hE
    rw [kk]
    refine B_53 F (Z_every (R1 := fun r i2 => rp b n m τ g 0 ((40 * m + npS σ, r.2.1.1.1 4, 1, some 0) :: K) i2 (rwP (40 * m + npS σ) none (trP1 r.2.1 (awT (trS r.2.1) (Int32.ofNat r.2.2.1) r.2.2.2).1)) 0 0 0 0 0 0) (H := H + 94 + 1) (m := m) (j := npS σ) hB hS C0 ho (by omega) (fun r i2 M1 Q' e1 e54 C1 hq => Z_trapped (H := H + 94) C1 t16 (fun M' Q'' C' hq' => row_go hS ih G (e r i2 e1 e54) (by omega) C' hq') hq) (fun r i2 q e1 e54 eq => ?_) hE.qb)
    have tw : 1 ≤ (awT (trS r.2.1) (Int32.ofNat r.2.2.1) r.2.2.2).1.1 := by
      have c2 := (atM_cl e1).2
      exact (ts_aw (Θ := trS r.2.1) (by rw [c2]; exact tt)).one (by rw [c2]; exact tt)
    have := row_ok hS G (e r i2 e1 e54) tw eq
    exact ⟨this.1, this.2.1⟩
  · -- trap
    have C0 := C0 (by rw [kk]; decide)
    have e : ∀ i3, tK b n (i + 1) = 2 → ¬ (toT (tC b n (i + 1)) τ = true ∨ (trW K (tC b n (i + 1))).isSome = true) → ((adv' b n (i + 1)).bind fun i2 => ex b n i2 56) = .ok i3 → hdM b n m τ (tK b n i) (npS σ) (i + 1) K σ0 = .ok (i3, ((σ0.1.1, σ0.1.2.1, va_up σ0.1.2.2 (40 * m + npS σ) (rV b n (tP b n (i + 1)))), σ0.2), 0, false, 0, some (tC b n (i + 1))) := by
      intro i3 h2 nw fe
      obtain ⟨i2, ea, e56⟩ := bind_ok fe
      rw [kk]
      show (if tK b n (i + 1) = 2 then _ else _) = _
      rw [if_pos h2, if_neg nw, ea]
      show (ex b n i2 56).bind _ = _
      rw [e56]
      rfl
    rw [kk, bdM_55] at hE
    rw [kk]
    refine B_55 F (Z_trap (R1 := fun i3 => rp b n m τ g 0 ((40 * m + npS σ, σ0.1.1 4, 1, some (tC b n (i + 1))) :: K) i3 (rwP (40 * m + npS σ) none ((σ0.1.1, σ0.1.2.1, va_up σ0.1.2.2 (40 * m + npS σ) (rV b n (tP b n (i + 1)))), σ0.2)) 0 0 0 0 0 0) (H := H + 94 + 1) (t0 := (trS σ0).1) (m := m) hB hS C0 (by omega) (Nat.le_refl _) (fun i3 M1 Q' h2 nw fe C1 hq => Z_trapped (H := H + 94) C1 t16 (fun M' Q'' C' hq' => row_go hS ih G (e i3 h2 nw fe) (by omega) C' hq') hq) (fun i3 q h2 nw fe eq => ?_) hE.qb)
    have := row_ok hS G (e i3 h2 nw fe) tt eq
    exact ⟨this.1, this.2.1⟩
  · -- if
    rw [kk, bdM_58] at hE
    have kc : tK b n i = 44 ∨ tK b n i = 58 := Or.inr kk
    have he : ∀ r, cmM b n m τ (npS σ) (i + 1) (K.length + 1) σ0 = .ok r → ∀ i2, ex b n r.1 45 = .ok i2 → hdM b n m τ (tK b n i) (npS σ) (i + 1) K σ0 = .ok (i2, r.2.1, r.2.2, false, 0, none) := by
      intro r e1 i2 e45
      rw [kk, hdM_58, e1]
      show (ex b n r.1 45).bind _ = _
      rw [e45]
      rfl
    have hc3 := hc3 kk
    rw [kk]
    refine B_58 F (Z_cmp (m := m) hB hS hC ⟨hc.1, hc.2.1, hc3, hc.2.2⟩ h40 hj ho (by omega) ?_)
    cases e1 : cmM b n m τ (npS σ) (i + 1) (K.length + 1) σ0 with
    | error y =>
      rw [e1] at hE
      exact fun M1 v X1 _ => ⟨_, rfl, V_choice X1 (EdP.vend (EdP.qb hE) nil (by decide) (Nat.le_refl _))⟩
    | ok r =>
      rw [e1] at hE
      have c2 : trS r.2.1 = trS σ0 := by
        unfold cmM at e1
        obtain ⟨x1, s1, e1⟩ := bind_ok e1
        have g1 := (suM_cl s1).2.2.2
        by_cases z : 7 ≤ tK b n x1.1 ∧ tK b n x1.1 ≤ 12
        · rw [if_pos z] at e1
          obtain ⟨x2, -, e1⟩ := bind_ok e1
          obtain ⟨x3, s3, e1⟩ := bind_ok e1
          cases e1
          exact (suM_cl s3).2.2.2.trans g1
        · rw [if_neg z] at e1
          cases e1
      intro M1 C1 _
      exact ⟨_, rfl, O_choice (H := H + 94 + 1) hB hS ih G kc (he r e1) C1 (by rw [c2]; exact Nat.le_refl _) (by omega) (EdP.qb hE)⟩
  · -- branches
    have C0 := C0 (by rw [kk]; decide)
    have e : hdM b n m τ (tK b n i) (npS σ) (i + 1) K σ0 = .ok (i + 1, trP1 σ0 (mkT (trS σ0) 8).1, 0, false, (mkT (trS σ0) 8).2, none) := by rw [kk]; rfl
    rw [kk, bdM_17] at hE
    rw [kk]
    obtain ⟨⟨q1, q2, q3⟩, I0, hl, n1, hc', -⟩ := G.i0 hS e
    have n2 : (rwP (40 * m + npS σ) none (trP1 σ0 (mkT (trS σ0) 8).1)).1.1 4 = σ0.1.1 4 + 1 := rfl
    have e4 : σ0.1.1 4 = σ.1.1 4 := by rw [G.2.2.2.2.2]; exact bg_n.2.1
    have tm := ts_mk (Θ := trS σ0) (k := 8) tt
    refine B_17 F (KX4_readBranches ?_)
    unfold DX4_readBranches_0
    refine ⟨ok14 F, 4, rf14_1 F, ok4 F, S_mk F C0.2.1.trp (fun M1 T1 k1 _ => ⟨_, rfl, ?_⟩)⟩
    have C1 := C0.tree k1 T1
    have g5 : mI M 14 5 = giS σ0 := C0.2.1.rd.2.2.1
    have g6 : mI M 14 6 = usS σ0 := C0.2.1.rd.2.2.2.1
    rw [g5, g6]
    refine ih.2.2.2 K (i + 1) (rwP (40 * m + npS σ) none (trP1 σ0 (mkT (trS σ0) 8).1)) (mkT (trS σ0) 8).2 (npS σ) (σ0.1.1 4) 1 0 0 (giS σ0) (usS σ0) (giS σ0) (usS σ0) M1 ps1 (H + 94 + 1 + 1) _ ⟨I0.1, by omega, fun z => absurd z (by decide), fun _ => ⟨hl, by rw [n2]; exact Nat.lt_succ_self _, by rw [n1]; exact Nat.lt_succ_self _⟩, fun z => absurd z (by decide), by rw [n2, n1]; omega⟩ (C1.cnt rfl rfl rfl rfl) tm.2 ⟨Nat.le_refl _, by decide⟩ (by omega) (by have := G.2.2.2.2.1; omega) ?_
    have hq := EdP.ext (e := []) (EdP.qb (M := M) hE) tm.1
    rw [List.append_nil] at hq
    exact hq
end
end
section
/-! the class reads parts: a part, branches, all of it -/
section
variable {b : Nat → Int32} {n s n0 m : Nat} {τ : Td} {M0 M M1 M' : Mem} {i o j g a1 a2 a3 a4 H : Nat} {γ : ClT} {σ σ0 : PS} {K : List KE} {cn cn' : Nat → Nat} {ps ps1 ps' : List Nat} {tl : List Int64} {f k c1 c2 : Int32} {w : Int64} {p t t' h B t0 t1 v : Nat} {Q : Option Value → Mem → Prop} {Q1 Q2 : Int32 → Mem → Prop} {W : Nat}
theorem Z_136 {u : Nat × PS × Nat} (hC : CS b n s n0 τ M0 M u.1 (if opnK k = true then K.length + 1 else K.length) u.2.1.2.1 u.2.1.1.1 ps' tl) (hl : K.length ≤ 15) (hj : j < ps'.length) (he : ∃ x, ps' = ps ++ x) (hE : EdP b n s n0 τ M0 K.length ps tl t0 (fun v M' => Q (some (.int v)) M') (.ok (u.1, fiP m j u.2.2 u.2.1, u.2.2))) : DX4_readPart_136 (h + 2) 14 k (ps'.getD j 0) (ps'.getD j 0) (Int32.ofNat u.2.2) M Q := by
  unfold DX4_readPart_136 DX4_readPart_153
  refine ⟨(hC.2.1.part hj).1, fun M2 e2 => ?_⟩
  have C2 := hC.pt hj e2
  have F2 := C2.1.1
  have val : ∀ (M3 : Mem) (o3 : Nat), CS b n s n0 τ M0 M3 u.1 o3 (up2 u.2.1.2.1.1 j 1 (Int32.ofNat u.2.2), u.2.1.2.1.2) u.2.1.1.1 ps' tl → mI M3 (ps'.getD j 0) 1 = Int32.ofNat u.2.2 := by
    intro M3 o3 C3
    rw [(C3.2.1.part hj).2.2 1 (by decide)]
    exact up2_eq
  refine S_stays (fun _ => ⟨_, rfl, fun z => ⟨(C2.2.1.part hj).1, ?_⟩, fun z => ⟨ok14 F2, 15, rf14_0 F2, ok15 F2, ?_⟩⟩)
  · have no : ¬ opnK k = true := fun q => by rw [if_pos q] at z; exact absurd z (by decide)
    rw [if_neg no] at C2
    rw [val M2 _ C2]
    exact hE M2 ps' C2 he
  · have yes : opnK k = true := by
      by_cases q : opnK k = true
      · exact q
      · rw [if_neg q] at z; exact absurd rfl z
    rw [if_pos yes] at C2
    refine Z_closes C2 (by omega) (fun M3 C3 _ => ⟨rfl, (C3.2.1.part hj).1, ?_⟩)
    rw [val M3 _ C3]
    exact hE M3 ps' C3 he
theorem V_97b {d : Int32} (X : CX n0 τ M0 W B M f p ps tl t) (hj : j < ps.length) (hB : B ≤ 6) (H : VEnd n0 τ M0 W (B + 3) f p ps tl t Q) : (¬ k = 2 → E (h + 12) mdX4_readBody [.ref 14, .int k, .ref (ps.getD j 0), .int d] M (fun r M7 => mE M M7 → ∃ r8 : Int32, r = some (.int r8) ∧ DX4_readPart_136 (h + 12) 14 k (ps.getD j 0) (ps.getD j 0) r8 M7 Q)) ∧ (k = 2 → E (h + 12) mdX4_readAssign [.ref 14, .ref (ps.getD j 0), .long w] M (fun r M9 => mE M M9 → ∃ r10 : Int32, r = some (.int r10) ∧ DX4_readPart_136 (h + 12) 14 k (ps.getD j 0) (ps.getD j 0) r10 M9 Q)) := by
  refine ⟨fun _ => ?_, fun _ => ?_⟩
  · exact V_body X hj hB (fun M' v t' X' q1 q2 _ => ⟨_, rfl, V_136 (h := h + 10) X' hj q2 (H.up q1)⟩)
  · exact V_asg (h := h + 4) X hj (by omega) (fun M' v t' X' q1 q2 _ => ⟨_, rfl, V_136 (h := h + 10) (X'.mono (Nat.le_refl _) (by omega)) hj q2 (H.up q1)⟩)
theorem Z_part (hB : By b) (hS : Sto b n s) (ih : RcS b n s n0 m τ M0 g) (hI : RpI m 2 K σ a2 a3) (hC : CS b n s n0 τ M0 M i K.length σ.2.1 σ.1.1 ps (tlK K)) (hH : hK K ≤ H + 1) (hg : 6 * (s + 1 - i) ≤ g + 1) (hE : EdP b n s n0 τ M0 K.length ps (tlK K) (trS σ).1 (fun v M' => Q (some (.int v)) M') (rp b n m τ (g + 1) 2 K i σ a1 a2 a3 a4 c1 c2)) : E H mdX4_readPart [.ref 14, .int (Int32.ofNat (K.length + 1))] M Q := by
  have hh : 100 ≤ hK K := Nat.le_add_right _ _
  obtain ⟨H, rfl⟩ : ∃ H', H = H' + 12 + 1 := ⟨H - 13, by omega⟩
  have F := hC.1.1
  have L := hC.len
  have t1 : 1 ≤ (trS σ).1 := hC.t1
  have kd : mI M 15 9 = tK b n i := hC.1.kind
  have h0 : tK b n i ≠ 0 := hC.1.2.2.2.2.2.2.2.2.2
  obtain ⟨hP, hKl, hq, -, -, hc⟩ := id hI
  rw [rp_bd, okK_d] at hE
  refine KX4_readPart ?_
  unfold DX4_readPart_0
  refine ⟨ok14 F, 15, rf14_0 F, ok15 F, ?_⟩
  rw [kd]
  refine Z_check (σ := σ) hB hC hP.2.1 (fun o0 _ => ⟨rfl, 15, rf14_0 F, ok15 F, fun _ => ?_, fun z => absurd hC.1.2.2.2.2.2.2.2.2.1 z⟩) (fun e oe M4 X4 _ => ⟨rfl, 15, rf14_0 X4.1.1, ok15 X4.1.1, fun z => absurd z (by rw [X4.1.2.2.1]; exact X4.1.2.2.2.1), fun _ => ?_⟩)
  · obtain ⟨o1, o2, o3, o4, -⟩ := okK_ok o0
    have k1 : tK b n i ≠ 1 := fun z => o2 (by rw [z]; exact soK_1)
    rw [o0] at hE
    have hE : EdP b n s n0 τ M0 K.length ps (tlK K) (trS σ).1 (fun v M' => Q (some (.int v)) M') ((if opnK (tK b n i) = true ∧ K.length = 15 then (.error (6, tP b n i) : Except (Int32 × Nat) Unit) else .ok ()).bind fun _ => (adv' b n i).bind fun i1 => (bdM b n m τ g K i1 (tK b n i) (tC b n i) (npS σ) (bgP m (tK b n i) (tP b n i) (sqK K) K.length (whK (tK b n i) (tC b n i) τ) σ)).bind fun u => .ok (u.1, fiP m (npS σ) u.2.2 u.2.1, u.2.2)) := hE
    intro q8 M7 e8 e7
    subst e8
    refine Z_new (m := m) (q := sqK K) (d := K.length) (wh := whK (tK b n i) (tC b n i) τ) hC o3 hP.2.1 hKl hP.2.2.2.1 (fun M25 C25 => ?_) (mN M) M7 rfl e7
    have np : npS σ = ps.length := L.2.2.2.1.symm
    have hj : npS σ < (ps ++ [mN M]).length := by rw [np, List.length_append]; exact Nat.lt_succ_self _
    have ex1 : mN M = (ps ++ [mN M]).getD (npS σ) 0 := (getD_last np).symm
    have ext : ∃ x, ps ++ [mN M] = ps ++ x := ⟨_, rfl⟩
    generalize ps ++ [mN M] = ps1 at C25 hj ex1 ext ⊢
    rw [ex1]
    generalize hs0 : bgP m (tK b n i) (tP b n i) (sqK K) K.length (whK (tK b n i) (tC b n i) τ) σ = σ0 at C25 hE
    have ts0 : (trS σ0).1 = (trS σ).1 := by rw [← hs0]; rfl
    have cnf : (cnB m (tK b n i) (tP b n i) (sqK K) K.length (whK (tK b n i) (tC b n i) τ) σ 0 = σ0.1.1 0 ∧ cnB m (tK b n i) (tP b n i) (sqK K) K.length (whK (tK b n i) (tC b n i) τ) σ 1 = σ0.1.1 1 ∧ cnB m (tK b n i) (tP b n i) (sqK K) K.length (whK (tK b n i) (tC b n i) τ) σ 3 = σ0.1.1 3) ∧ cnB m (tK b n i) (tP b n i) (sqK K) K.length (whK (tK b n i) (tC b n i) τ) σ 2 = σ.1.1 2 ∧ σ0.1.1 2 = σ.1.1 2 + (if tK b n i = 58 then 1 else 0) := by
      rw [← hs0]
      exact ⟨⟨rfl, rfl, rfl⟩, rfl, by simp [bgP, va_up]⟩
    have bod : ∀ (i1 : Nat) (M6 : Mem) (o6 : Nat), o6 = (if opnK (tK b n i) = true then K.length + 1 else K.length) → EdP b n s n0 τ M0 K.length ps (tlK K) (trS σ).1 (fun v M' => Q (some (.int v)) M') ((bdM b n m τ g K i1 (tK b n i) (tC b n i) (npS σ) σ0).bind fun u => .ok (u.1, fiP m (npS σ) u.2.2 u.2.1, u.2.2)) → EdP b n s n0 τ M0 o6 ps1 (tlK K) (trS σ0).1 (fun v M7 => mE M6 M7 → ∃ r8 : Int32, some (Value.int v) = some (.int r8) ∧ DX4_readPart_136 (H + 12) 14 (tK b n i) (ps1.getD (npS σ) 0) (ps1.getD (npS σ) 0) r8 M7 Q) (bdM b n m τ g K i1 (tK b n i) (tC b n i) (npS σ) σ0) := by
      intro i1 M6 o6 eo hb
      obtain ⟨x1, hx1⟩ := ext
      cases eb : bdM b n m τ g K i1 (tK b n i) (tC b n i) (npS σ) σ0 with
      | error y =>
        rw [eb] at hb
        intro M8 ps8 v t8 X8 ⟨x8, h8⟩ hv ht _
        have ej : ps1.getD (npS σ) 0 = ps8.getD (npS σ) 0 := by rw [h8]; exact (getD_ext hj).symm
        rw [ej]
        refine ⟨_, rfl, V_136 (h := H + 10) X8 (by rw [h8]; exact sm_lt hj) hv (EdP.vend hb ⟨x1 ++ x8, by rw [h8, hx1, List.append_assoc]⟩ (Nat.le_refl _) (by rw [← ts0]; exact ht))⟩
      | ok u =>
        rw [eb] at hb
        intro M8 ps8 C8 ⟨x8, h8⟩ _
        have ej : ps1.getD (npS σ) 0 = ps8.getD (npS σ) 0 := by rw [h8]; exact (getD_ext hj).symm
        rw [ej]
        rw [eo] at C8
        exact ⟨_, rfl, Z_136 (h := H + 10) (m := m) C8 hKl (by rw [h8]; exact sm_lt hj) ⟨x1 ++ x8, by rw [h8, hx1, List.append_assoc]⟩ hb⟩
    have xx : ∀ y : Int32 × Nat, EdP b n s n0 τ M0 K.length ps (tlK K) (trS σ).1 (fun v M' => Q (some (.int v)) M') (.error y) → VEnd n0 τ M0 (s + 70) 3 y.1 y.2 ps1 (tlK K) (trS σ0).1 Q := fun y hy => EdP.vend hy ext (by decide) (by rw [ts0]; exact Nat.le_refl _)
    refine S_stays (fun _ => ⟨_, rfl, fun z => ?_, fun z => ?_⟩)
    · have no : ¬ opnK (tK b n i) = true := fun q => by rw [if_pos q] at z; exact absurd z (by decide)
      rw [if_neg (show ¬ (opnK (tK b n i) = true ∧ K.length = 15) from fun y => no y.1)] at hE
      have hE : EdP b n s n0 τ M0 K.length ps (tlK K) (trS σ).1 (fun v M' => Q (some (.int v)) M') ((adv' b n i).bind fun i1 => (bdM b n m τ g K i1 (tK b n i) (tC b n i) (npS σ) σ0).bind fun u => .ok (u.1, fiP m (npS σ) u.2.2 u.2.1, u.2.2)) := hE
      have F25 := C25.1.1
      unfold DX4_readPart_97
      refine ⟨ok14 F25, 15, rf14_0 F25, ok15 F25, 15, rf14_0 F25, ok15 F25, Z_adv hS C25 k1 ?_⟩
      cases ea : adv' b n i with
      | error y =>
        rw [ea] at hE
        intro M6 X6 _
        exact ⟨rfl, V_97b X6 hj (by decide) (xx y hE)⟩
      | ok i1 =>
        rw [ea] at hE
        have hb := bod i1
        intro M6 C6 _
        have hb := hb M6 K.length (by rw [if_neg no]) hE
        have C6 : CS b n s n0 τ M0 M6 i1 K.length σ0.2.1 σ0.1.1 ps1 (tlK K) := by
          refine C6.cnt cnf.1.1.symm cnf.1.2.1.symm ?_ cnf.1.2.2.symm
          rw [cnf.2.1, cnf.2.2, if_neg (fun y => no (by rw [y]; decide)), Nat.add_zero]
        have hlf : bdM b n m τ g K i1 (tK b n i) (tC b n i) (npS σ) σ0 = lfM b n m τ (tK b n i) (tC b n i) (npS σ) i1 K σ0 := by
          unfold bdM
          rw [if_pos (by cases ht : opnK (tK b n i) with
            | false => rfl
            | true => exact absurd ht no)]
        rw [hlf] at hb
        refine ⟨rfl, fun k2 => ?_, fun k2 => ?_⟩
        · have sa : sal (tK b n i) := by
            by_cases q : sal (tK b n i)
            · exact q
            · exact absurd (so_no k2 no q) o2
          exact Z_leaf (m := m) (w := tC b n i) hB hS C6 hj hKl sa (by omega) hb
        · have ew : mJ M25 15 11 = tC b n i := C25.1.word hB k2
          rw [ew]
          rw [k2] at hb
          rw [k2]
          exact Z_asg (m := m) hB hS C6 hj hKl (by omega) hb
    · have yes : opnK (tK b n i) = true := by
        by_cases q : opnK (tK b n i) = true
        · exact q
        · rw [if_neg q] at z; exact absurd rfl z
      have F25 := C25.1.1
      refine ⟨15, rf14_0 F25, ok15 F25, Z_opens C25 hKl (fun hlt M30 C30 _ => ⟨rfl, ?_⟩) (fun h15 M30 X30 _ => ⟨rfl, ?_⟩)⟩
      · rw [if_neg (show ¬ (opnK (tK b n i) = true ∧ K.length = 15) from fun y => by omega)] at hE
        have hE : EdP b n s n0 τ M0 K.length ps (tlK K) (trS σ).1 (fun v M' => Q (some (.int v)) M') ((adv' b n i).bind fun i1 => (bdM b n m τ g K i1 (tK b n i) (tC b n i) (npS σ) σ0).bind fun u => .ok (u.1, fiP m (npS σ) u.2.2 u.2.1, u.2.2)) := hE
        have F30 := C30.1.1
        unfold DX4_readPart_97
        refine ⟨ok14 F30, 15, rf14_0 F30, ok15 F30, 15, rf14_0 F30, ok15 F30, Z_adv hS C30 k1 ?_⟩
        cases ea : adv' b n i with
        | error y =>
          rw [ea] at hE
          intro M6 X6 _
          exact ⟨rfl, V_97b X6 hj (by decide) (xx y hE)⟩
        | ok i1 =>
          rw [ea] at hE
          obtain ⟨rfl, ha⟩ := adv_is ea
          intro M6 C6 _
          have hb := bod (i + 1) M6 (K.length + 1) (by rw [if_pos yes]) hE
          have ho : okK (tK b n i) (tC b n i) K.length τ σ (tP b n i) = .ok () := by
            rw [okK_d, o0]
            show (if opnK (tK b n i) = true ∧ K.length = 15 then _ else _) = _
            rw [if_neg (fun y => by omega)]
          have G : Bgn b n s m τ K i σ σ0 g := ⟨⟨L.2.2.1, h0, ha⟩, ⟨hP, hKl, hq, fun y => absurd y (by decide), fun y => absurd y (by decide), hc⟩, ho, yes, hg, hs0.symm⟩
          refine ⟨rfl, fun k2 => ?_, fun k2 => absurd yes (by rw [k2]; decide)⟩
          refine Z_open hB hS ih G C6 hj cnf.1 (fun y => ?_) (fun y => ?_) ?_ (by omega) hb
          · rw [cnf.2.1, cnf.2.2, if_neg y, Nat.add_zero]
          · rw [cnf.2.1, cnf.2.2, if_pos y]
          · have hp2 := hP.2.2.1
            rw [cnf.2.2]
            by_cases y : tK b n i = 58
            · rw [if_pos y]; omega
            · rw [if_neg y]; omega
      · rw [if_pos ⟨yes, h15⟩] at hE
        exact V_97 X30 hj (by decide) (xx _ hE)
  · rw [oe] at hE
    exact EdP.er (v := 0) hE X4 (by decide) t1 (Nat.le_refl _)
end
end
section
/-! the class reads parts: branches, and all of it -/
section
variable {b : Nat → Int32} {n s n0 m : Nat} {τ : Td} {M0 M M1 M' : Mem} {i o j g a1 a2 a3 a4 H : Nat} {γ : ClT} {σ σ0 : PS} {K : List KE} {cn cn' : Nat → Nat} {ps ps1 ps' : List Nat} {tl : List Int64} {f k c1 c2 g0 u0 gg uu : Int32} {w : Int64} {p t t' h B t0 t1 v : Nat} {Q : Option Value → Mem → Prop} {Q1 Q2 : Int32 → Mem → Prop} {W : Nat}
theorem CS.gu {v q : Int32} {M2 : Mem} (hC : CS b n s n0 τ M0 M i o σ.2.1 cn ps tl) (e1 : M1 = wI M 14 5 v) (e2 : M2 = wI M1 14 6 q) : CS b n s n0 τ M0 M2 i o (guP σ v q).2.1 cn ps tl := by
  have T1 : TI b n s M1 i o := by rw [e1]; exact hC.1.fr hC.1.1.i w14 rfl rfl rfl rfl
  have Q1 := hC.2.1.gv hC.1.1 e1
  have T2 : TI b n s M2 i o := by rw [e2]; exact T1.fr T1.1.i w14 rfl rfl rfl rfl
  exact ⟨T2, Q1.uv T1.1 e2, hC.2.2⟩
/-- a branch is whole -/
def brS (σ : PS) (j a x : Nat) (g0 u0 : Int32) : PS := hgP (if giS σ &&& (g0 ||| u0) = 0 ∧ usS σ &&& g0 = 0 then σ else paP σ j 2 8) a x
theorem brS_t {x : Nat} : (trS (brS σ j a1 x c1 c2)).1 = (trS σ).1 ∧ (brS σ j a1 x c1 c2).1.1 = σ.1.1 ∧ giS (brS σ j a1 x c1 c2) = giS σ ∧ usS (brS σ j a1 x c1 c2) = usS σ := by
  unfold brS
  by_cases z : giS σ &&& (c1 ||| c2) = 0 ∧ usS σ &&& c1 = 0
  · rw [if_pos z]; exact ⟨hgT_n.1, rfl, rfl, rfl⟩
  · rw [if_neg z]; exact ⟨hgT_n.1, rfl, rfl, rfl⟩
theorem Z_br91 {d : Int32} {x : Nat} (hS : Sto b n s) (ih : RcS b n s n0 m τ M0 g) (h14 : K.length ≤ 14) (hd : d = Int32.ofNat (K.length + 1)) (hH : hK K ≤ H + 16) (h4 : 1 ≤ a4 ∧ a4 ≤ 8) (hi : 6 * (s + 1 - i) ≤ g) (hP : PsOk m σ) (hn : σ.1.1 4 ≤ npS σ) (h3 : a3 < σ.1.1 4) (h2 : a2 < npS σ) (hC : CS b n s n0 τ M0 M i (K.length + 1) (brS σ a2 a1 x c1 c2).2.1 σ.1.1 ps' (tlK K)) (ha : a1 < (trS σ).1) (hx : ps'.getD a2 0 = ps.getD a2 0) (h2p : a2 < ps.length) (he : ∃ y, ps' = ps ++ y) (ht : t0 ≤ (trS σ).1) (hE : EdP b n s n0 τ M0 (K.length + 1) ps (tlK K) t0 (fun v M' => Q (some (.int v)) M') ((if tK b n i = 6 then (if a4 = 8 then .error (6, tP b n i) else (adv' b n i).bind fun j => rp b n m τ g 3 K j (rwP (40 * m + a2) (some a3) (brP σ a2 a1 x c1 c2)) a1 a2 (σ.1.1 4) (a4 + 1) (c1 ||| giS σ) (c2 ||| usS σ)) else (ex b n i 18).bind fun j => .ok (j, brP σ a2 a1 x c1 c2, a1) : Except (Int32 × Nat) (Nat × PS × Nat)).bind fun q => .ok (q.1, guP q.2.1 (g0 ||| giS q.2.1) (u0 ||| usS q.2.1), q.2.2))) : DX4_readBranches_91 (H + 12) 14 (ps.getD a2 0) d g0 u0 c1 c2 (Int32.ofNat a1) (Int32.ofNat (a4 - 1)) M Q := by
  have F := hC.1.1
  obtain ⟨b1, b2, b3, b4⟩ := brS_t (σ := σ) (j := a2) (a1 := a1) (x := x) (c1 := c1) (c2 := c2)
  have e5 : mI M 14 5 = giS σ := by rw [← b3]; exact hC.2.1.rd.2.2.1
  have e6 : mI M 14 6 = usS σ := by rw [← b4]; exact hC.2.1.rd.2.2.2.1
  have kd : mI M 15 9 = tK b n i := hC.1.kind
  have hj' : a2 < ps'.length := by obtain ⟨y, hy⟩ := he; rw [hy]; exact sm_lt h2p
  unfold DX4_readBranches_91
  rw [e5, e6]
  refine ⟨ok14 F, 15, rf14_0 F, ok15 F, fun z => ?_, fun z => ?_⟩
  · rw [kd] at z
    rw [if_pos z] at hE
    unfold DX4_readBranches_140
    refine ⟨fun y => ?_, fun y => ⟨15, rf14_0 F, ok15 F, Z_fail hC (by decide) (fun M6 X6 _ => ⟨rfl, ok14 X6.1.1, 15, rf14_0 X6.1.1, ok15 X6.1.1, V_adv X6 (fun _ => ⟨rfl, ?_⟩)⟩)⟩⟩
    · have n8 : a4 ≠ 8 := fun w => y (by rw [w]; decide)
      rw [if_neg n8] at hE
      refine ⟨ok14 F, 15, rf14_0 F, ok15 F, Z_adv hS hC (by rw [z]; decide) ?_⟩
      cases ea : adv' b n i with
      | error w =>
        rw [ea] at hE
        intro M4 X4 _
        have X4 : CX n0 τ M0 (s + 70) 0 M4 w.1 w.2 ps' (tlK K) (trS (brS σ a2 a1 x c1 c2)).1 := X4
        rw [b1] at X4
        rw [← hx]
        exact ⟨rfl, V_br31 (h := H + 6) X4 hj' ha (EdP.vend hE he (by decide) ht)⟩
      | ok i1 =>
        rw [ea] at hE
        obtain ⟨rfl, ha1⟩ := adv_is ea
        have hE : EdP b n s n0 τ M0 (K.length + 1) ps (tlK K) t0 (fun v M' => Q (some (.int v)) M') ((rp b n m τ g 3 K (i + 1) (rwP (40 * m + a2) (some a3) (brP σ a2 a1 x c1 c2)) a1 a2 (σ.1.1 4) (a4 + 1) (c1 ||| giS σ) (c2 ||| usS σ)).bind fun q => .ok (q.1, guP q.2.1 (g0 ||| giS q.2.1) (u0 ||| usS q.2.1), q.2.2)) := hE
        intro M4 C4 _
        refine ⟨rfl, ?_⟩
        have e8 : Int32.ofNat (a4 - 1) + 1 = Int32.ofNat (a4 + 1 - 1) := by rw [succ32]; congr 1; omega
        rw [e8, ← hx, hd]
        obtain ⟨n1, n2⟩ := br_n (σ := σ) (j := a2) (a := a1) (x := x) (g := c1) (u := c2)
        obtain ⟨z1, z2, -⟩ := rw_n (σ := brP σ a2 a1 x c1 c2) (p := 40 * m + a2) (q0 := some a3)
        have np : npS (brP σ a2 a1 x c1 c2) = npS σ := by unfold npS; rw [n1]
        have n4 : (brP σ a2 a1 x c1 c2).1.1 4 = σ.1.1 4 := by rw [n1]
        obtain ⟨y0, hy0⟩ := he
        refine ih.2.2.2 K (i + 1) (rwP (40 * m + a2) (some a3) (brP σ a2 a1 x c1 c2)) a1 a2 (σ.1.1 4) (a4 + 1) (c1 ||| giS σ) (c2 ||| usS σ) g0 u0 (giS σ) (usS σ) M4 ps' (H + 12 + 1) Q ⟨hP.br.rw, by omega, fun w => absurd w (by decide), fun _ => ⟨h14, by rw [z2, n4]; exact Nat.lt_succ_self _, by rw [z1, np]; exact h2⟩, fun w => absurd w (by decide), by rw [z2, z1, n4, np]; omega⟩ ?_ (by show a1 < (trS (brP σ a2 a1 x c1 c2)).1; rw [n2]; exact ha) ⟨by omega, by omega⟩ (by omega) (by have := C4.len; omega) ?_
        · have eg : (guP (rwP (40 * m + a2) (some a3) (brP σ a2 a1 x c1 c2)) (giS σ) (usS σ)).2.1 = (brS σ a2 a1 x c1 c2).2.1 := by
            have : (guP (brS σ a2 a1 x c1 c2) (giS σ) (usS σ)).2.1 = (brS σ a2 a1 x c1 c2).2.1 := by
              rw [← b3, ← b4]
              rfl
            rw [← this]
            rfl
          rw [eg]
          refine C4.cnt ?_ ?_ ?_ ?_
          · show (brP σ a2 a1 x c1 c2).1.1 0 = _; rw [n1]
          · show (brP σ a2 a1 x c1 c2).1.1 1 = _; rw [n1]
          · show (brP σ a2 a1 x c1 c2).1.1 2 = _; rw [n1]
          · show (brP σ a2 a1 x c1 c2).1.1 3 = _; rw [n1]
        · rw [hy0]
          exact EdP.ext hE (by show t0 ≤ (trS (brP σ a2 a1 x c1 c2)).1; rw [n2]; exact ht)
    · have n8 : a4 = 8 := by
        have w : a4 - 1 = 7 := (z32 (k := 7) (by omega) (by decide)).mp y
        omega
      rw [if_pos n8] at hE
      have X6 : CX n0 τ M0 (s + 70) 0 M6 6 (tP b n i) ps' (tlK K) (trS (brS σ a2 a1 x c1 c2)).1 := X6
      rw [b1] at X6
      rw [← hx]
      exact V_br31 (h := H + 6) X6 hj' ha (EdP.vend (e := (6, tP b n i)) hE he (by decide) ht)
  · rw [kd] at z
    rw [if_neg z] at hE
    unfold DX4_readBranches_153
    refine ⟨ok14 F, fun M2 e2 M3 e3 => ?_⟩
    have C3 := hC.gu e2 e3
    have F3 := C3.1.1
    refine ⟨15, rf14_0 F3, ok15 F3, Z_expect hS C3 (by decide) ?_⟩
    cases e18 : ex b n i 18 with
    | error w =>
      rw [e18] at hE
      intro M4 X4 _
      have X4 : CX n0 τ M0 (s + 70) 0 M4 w.1 w.2 ps' (tlK K) (trS (brS σ a2 a1 x c1 c2)).1 := X4
      rw [b1] at X4
      exact ⟨rfl, EdP.vend hE he (by decide) ht M4 a1 _ X4 (Nat.le_refl _) ha⟩
    | ok i1 =>
      rw [e18] at hE
      intro M4 C4 _
      refine ⟨rfl, ?_⟩
      have hE : EdP b n s n0 τ M0 (K.length + 1) ps (tlK K) t0 (fun v M' => Q (some (.int v)) M') (.ok (i1, guP (brP σ a2 a1 x c1 c2) (g0 ||| giS (brP σ a2 a1 x c1 c2)) (u0 ||| usS (brP σ a2 a1 x c1 c2)), a1)) := hE
      refine hE.oke he ?_
      obtain ⟨n1, n2⟩ := br_n (σ := σ) (j := a2) (a := a1) (x := x) (g := c1) (u := c2)
      show CS b n s n0 τ M0 M4 i1 (K.length + 1) (guP (brP σ a2 a1 x c1 c2) (g0 ||| giS (brP σ a2 a1 x c1 c2)) (u0 ||| usS (brP σ a2 a1 x c1 c2))).2.1 (brP σ a2 a1 x c1 c2).1.1 ps' (tlK K)
      rw [n1]
      exact C4
theorem Z_branch (hS : Sto b n s) (ih : RcS b n s n0 m τ M0 g) (hI : RpI m 3 K σ a2 a3) (hC : CS b n s n0 τ M0 M i (K.length + 1) (guP σ gg uu).2.1 σ.1.1 ps (tlK K)) (ha : a1 < (trS σ).1) (h4 : 1 ≤ a4 ∧ a4 ≤ 8) (hH : hK K ≤ H + 3) (hg : 6 * (s + 1 - i) + 2 ≤ g + 1) (hE : EdP b n s n0 τ M0 (K.length + 1) ps (tlK K) (trS σ).1 (fun v M' => Q (some (.int v)) M') ((rp b n m τ (g + 1) 3 K i σ a1 a2 a3 a4 c1 c2).bind fun q => .ok (q.1, guP q.2.1 (g0 ||| giS q.2.1) (u0 ||| usS q.2.1), q.2.2))) : T H mdX4_readBranches 31 [(0, .ref 14), (1, .ref (ps.getD a2 0)), (2, .int (Int32.ofNat (K.length + 1))), (3, .int g0), (4, .int u0), (5, .int c1), (6, .int c2), (7, .int (Int32.ofNat a1)), (8, .int (Int32.ofNat (a4 - 1)))] [] M Q := by
  have hh : 100 ≤ hK K := Nat.le_add_right _ _
  obtain ⟨H, rfl⟩ : ∃ H', H = H' + 12 + 1 := ⟨H - 13, by omega⟩
  have F := hC.1.1
  have L := hC.len
  have t1 : 1 ≤ (trS σ).1 := hC.t1
  obtain ⟨hP, hKl, -, h3, -, hc⟩ := hI
  obtain ⟨h14, h3a, h3b⟩ := h3 rfl
  have h2p : a2 < ps.length := by have : npS σ = ps.length := L.2.2.2.1.symm; omega
  unfold rp at hE
  rw [if_neg (show ¬ (3 : Nat) = 0 by decide), if_neg (show ¬ (3 : Nat) = 1 by decide), if_neg (show ¬ (3 : Nat) = 2 by decide), ebA] at hE
  refine VX4_readBranches_31 ?_
  unfold DX4_readBranches_31
  refine ⟨fun z => absurd ((le32 (a := 8) (by decide) (by omega)).mp z) (by omega), fun _ => ⟨ok14 F, fun M2 e2 M3 e3 => ?_⟩⟩
  have C3 : CS b n s n0 τ M0 M3 i (K.length + 1) (guP σ 0 0).2.1 σ.1.1 ps (tlK K) := CS.gu (σ := guP σ gg uu) hC e2 e3
  have F3 := C3.1.1
  refine ⟨4, rf14_1 F3, ?_⟩
  have hk := hK_s K (40 * m + a2, a3, a4, none) (by omega)
  have I0 : RpI m 0 ((40 * m + a2, a3, a4, none) :: K) (guP σ 0 0) 0 0 := ⟨hP, by show K.length + 1 ≤ 15; omega, fun _ => h3a, fun z => absurd z (by decide), fun z => absurd z (by decide), hc⟩
  have ok0 := rp_ok (τ := τ) (m := m) hS g 0 ((40 * m + a2, a3, a4, none) :: K) i (guP σ 0 0) 0 0 0 0 0 0 (by decide) L.2.2.1 hC.1.2.2.2.2.2.2.2.2.2 I0
  refine ih.1 ((40 * m + a2, a3, a4, none) :: K) i (guP σ 0 0) 0 0 0 0 0 0 M3 ps (H + 12) _ I0 C3 (by omega) (by omega) ?_
  cases e0 : rp b n m τ g 0 ((40 * m + a2, a3, a4, none) :: K) i (guP σ 0 0) 0 0 0 0 0 0 with
  | error y =>
    rw [e0] at hE
    intro M5 ps5 v t5 X5 he hv ht _
    have X5 : CX n0 τ M0 (s + 70) 10 M5 y.1 y.2 ps5 (tlK K) t5 := X5
    have ht : (trS σ).1 ≤ t5 := ht
    obtain ⟨x5, hx5⟩ := id he
    have ej : ps.getD a2 0 = ps5.getD a2 0 := by rw [hx5]; exact (getD_ext h2p).symm
    rw [ej]
    exact ⟨_, rfl, ok4 X5.1.1, V_hg X5 (by omega) hv (fun M8 X8 _ => ⟨rfl, V_br (h := H + 10) X8 (by rw [hx5]; exact sm_lt h2p) (by omega) (EdP.vend hE he (Nat.le_refl _) ht)⟩)⟩
  | ok r =>
    rw [e0] at hE ok0
    obtain ⟨k1, k2, k3, ⟨p1, p2, p3, p4⟩, k5⟩ := ok0
    have i1 : i < r.1 := k5 (by decide)
    have tr1 : (trS σ).1 ≤ (trS r.2.1).1 := p1.2.2.2.2 t1
    have q1 : a1 < (trS r.2.1).1 := Nat.lt_of_lt_of_le ha tr1
    have q2 : r.2.2 < (trS r.2.1).1 := p4 t1 (fun z => by omega)
    have np1 : npS σ ≤ npS r.2.1 := p1.1
    have n41 : σ.1.1 4 ≤ r.2.1.1.1 4 := p1.2.1
    intro M5 ps5 C5 he _
    have C5 : CS b n s n0 τ M0 M5 r.1 (K.length + 1) r.2.1.2.1 r.2.1.1.1 ps5 (tlK K) := C5
    obtain ⟨x5, hx5⟩ := id he
    have ej : ps5.getD a2 0 = ps.getD a2 0 := by rw [hx5]; exact getD_ext h2p
    have hj5 : a2 < ps5.length := by rw [hx5]; exact sm_lt h2p
    refine ⟨_, rfl, ok4 C5.1.1, S_hg C5.1.1 C5.2.1.trp q1 q2 (fun M8 T8 k8 _ => ⟨rfl, ?_⟩)⟩
    have C8 : CS b n s n0 τ M0 M8 r.1 (K.length + 1) (hgP r.2.1 a1 r.2.2).2.1 r.2.1.1.1 ps5 (tlK K) := C5.tree k8 T8
    have e5 : mI M8 14 5 = giS r.2.1 := C8.2.1.rd.2.2.1
    have e6 : mI M8 14 6 = usS r.2.1 := C8.2.1.rd.2.2.2.1
    rw [e5, e6]
    have last : ∀ M9, CS b n s n0 τ M0 M9 r.1 (K.length + 1) (brS r.2.1 a2 a1 r.2.2 c1 c2).2.1 r.2.1.1.1 ps5 (tlK K) → DX4_readBranches_91 (H + 12) 14 (ps.getD a2 0) (Int32.ofNat (K.length + 1)) g0 u0 c1 c2 (Int32.ofNat a1) (Int32.ofNat (a4 - 1)) M9 Q := fun M9 C9 => Z_br91 (m := m) (a3 := a3) hS ih h14 rfl (by omega) h4 (by omega) p2 p3 (by omega) (by omega) C9 q1 ej h2p he tr1 hE
    have late : ¬ (giS r.2.1 &&& (c1 ||| c2) = 0 ∧ usS r.2.1 &&& c1 = 0) → DX4_readBranches_85 (H + 12) 14 (ps.getD a2 0) (Int32.ofNat (K.length + 1)) g0 u0 c1 c2 (Int32.ofNat a1) (Int32.ofNat (a4 - 1)) M8 Q := by
      intro z
      unfold DX4_readBranches_85
      rw [← ej]
      refine ⟨(C8.2.1.part hj5).1, fun M9 e9 => ?_⟩
      have C9 := C8.pt hj5 e9
      rw [ej]
      refine last M9 ?_
      unfold brS
      rw [if_neg z]
      exact C9
    refine ⟨fun z => late (fun y => z y.1), fun z => ⟨fun z2 => last M8 ?_, fun z2 => late (fun y => z2 y.2)⟩⟩
    unfold brS
    rw [if_pos ⟨z, z2⟩]
    exact C8
/-- THE CLASS READS ALL PARTS -/
theorem C_rp (hB : By b) (hS : Sto b n s) : ∀ g, RcS b n s n0 m τ M0 g := by
  intro g
  induction g with
  | zero =>
    refine ⟨fun K i σ a1 a2 a3 a4 c1 c2 M ps H Q hI hC hH hg hE => ?_, fun K i σ a1 a2 a3 a4 c1 c2 c M ps H Q hI hC ha hc hH hg hE => ?_, fun K i σ a1 a2 a3 a4 c1 c2 M ps H Q hI hC hH hg hE => ?_, fun K i σ a1 a2 a3 a4 c1 c2 g0 u0 gg uu M ps H Q hI hC ha h4 hH hg hE => ?_⟩
    all_goals (have := hC.len; omega)
  | succ g ih =>
    exact ⟨fun K i σ a1 a2 a3 a4 c1 c2 M ps H Q hI hC hH hg hE => Z_seq hS ih hI hC hH hg hE, fun K i σ a1 a2 a3 a4 c1 c2 c M ps H Q hI hC ha hc hH hg hE => Z_more hS ih hI hC ha hc hH hg hE, fun K i σ a1 a2 a3 a4 c1 c2 M ps H Q hI hC hH hg hE => Z_part hB hS ih hI hC hH hg hE, fun K i σ a1 a2 a3 a4 c1 c2 g0 u0 gg uu M ps H Q hI hC ha h4 hH hg hE => Z_branch hS ih hI hC ha h4 hH hg hE⟩
end
end
section
/-! the reference: from what is told to the end of the text -/
/-- before the first row -/
def σ0 (A : Nat → Nat → Int32) (B : Nat → Int64) (C : ClT) : PS := ((fun _ => 0, A, B), C, [], [])
def σI (A : Nat → Nat → Int32) (B : Nat → Int64) (C : ClT) : PS := ((va_up (fun _ => 0) 4 1, up2 (up2 (up2 A 73 0 (-1)) 74 0 (-1)) 75 0 (-1), B), C, [], [])
/-- the class as it begins to read parts -/
def cl0 (Z : Nat → Nat → Int32) (τ : Td) : ClT := (fun _ _ => 0, (1, 0, Z), NT τ.1.length, fun _ => 0, [], [], 0, 0)
/-- parts to the end of the text -/
def rdQ (b : Nat → Int32) (n m : Nat) (τ : Td) (i : Nat) (σ : PS) : Except (Int32 × Nat) (Nat × PS × Nat) := (rp b n m τ 6000 0 [] i σ 0 0 0 0 0 0).bind fun q => if tK b n q.1 = 1 then .ok q else .error (2, tP b n q.1)
theorem σI_ok {A : Nat → Nat → Int32} {B : Nat → Int64} {C : ClT} {m : Nat} : RpI m 0 [] (σI A B C) 0 0 := by
  refine ⟨⟨Nat.zero_le _, Nat.zero_le _, Nat.zero_le _, Nat.zero_le _, fun q hq => Or.inl ?_⟩, Nat.zero_le _, fun _ => ?_, fun z => absurd z (by decide), fun z => absurd z (by decide), ?_⟩
  · have hq : q < 1 := hq
    have : q = 0 := by omega
    rw [this]
    show up2 (up2 (up2 A 73 0 (-1)) 74 0 (-1)) 75 0 (-1) 73 0 = -1
    rw [up2_ne (by decide), up2_ne (by decide), up2_eq]
  · show 0 < 1; decide
  · show 1 ≤ 0 + 1; decide
section
variable {b : Nat → Int32} {n s m : Nat} {τ : Td} {M M' : Mem} {i h : Nat} {Q : Option Value → Mem → Prop} {A : Nat → Nat → Int32} {B : Nat → Int64} {C : ClT}
def EndRP (b : Nat → Int32) (n s m : Nat) (τ : Td) (M : Mem) (Q : Option Value → Mem → Prop) (R : Except (Int32 × Nat) (Nat × PS × Nat)) : Prop := match R with
  | .error e => ∀ M', TXr M' e.1 e.2 → RGp m M M' → Q (some (.int 0)) M'
  | .ok r => ∀ M', RPs b n s m τ [] r.2.1 M' r.1 0 → RGp m M M' → Q (some (.int 0)) M'
theorem R_parts (hB : By b) (hz : ∀ i, n ≤ i → b i = 0) (hS : Sto b n s) (hM : MxOk τ) (hT : RT b n s m τ M i) (h0 : tK b n i ≠ 0) (hc : mAI M 48 m = 0 ∧ mAI M 44 m = 0 ∧ mAI M 54 m = 0 ∧ mAI M 55 m = 0 ∧ mAI M 56 m = 0 ∧ mAI M 57 m = 0) (hA : ∀ c, 58 ≤ c → c ≤ 75 → c ≠ 72 → mAI M c = A c) (hN : mAJ M 72 = B) (hE : EndRP b n s m τ M Q (rdQ b n m τ i (σI A B C))) : E (h + 15) mdX11_readParts [.ref 29] M Q := by
  obtain ⟨t1, t2, t3, t4, t5, t6, t7⟩ := hT
  have F := t1.1
  refine KX11_readParts ?_
  unfold DX11_readParts_0
  refine ⟨ok29 F, fun M2 e2 M3 e3 M4 e4 => ?_⟩
  have G4 : RGp m M M4 := by
    rw [e4, e3, e2]
    exact ((RG.i (by decide)).tr (RG.i (by decide))).tr (RG.i (by decide))
  have F4 : Fix M4 := by rw [e4, e3, e2]; exact F.i.i.i
  have row : mAI M4 = mAI M := by rw [e4, e3, e2]; rfl
  have rowJ : mAJ M4 = mAJ M := by rw [e4, e3, e2]; rfl
  have f53 : mI M4 29 53 = 0 := by rw [e4, e3, e2]; simp [mNwI, mSwI, mKwI, mIwI, mJwI, mRwI, mLwI, mAIwI, mAJwI, mARwI, mNwJ, mSwJ, mKwJ, mIwJ, mJwJ, mRwJ, mLwJ, mAIwJ, mAJwJ, mARwJ, mNwR, mSwR, mKwR, mIwR, mJwR, mRwR, mLwR, mAIwR, mAJwR, mARwR, mNwAI, mSwAI, mKwAI, mIwAI, mJwAI, mRwAI, mLwAI, mAIwAI, mAJwAI, mARwAI, mNwAJ, mSwAJ, mKwAJ, mIwAJ, mJwAJ, mRwAJ, mLwAJ, mAIwAJ, mAJwAJ, mARwAJ, mNwAR, mSwAR, mKwAR, mIwAR, mJwAR, mRwAR, mLwAR, mAIwAR, mAJwAR, mARwAR, okkwI, okkwJ, okkwR, okkwAI, okkwAJ, okkwAR]
  have f60 : mI M4 29 60 = 0 := by rw [e4, e3, e2]; simp [mNwI, mSwI, mKwI, mIwI, mJwI, mRwI, mLwI, mAIwI, mAJwI, mARwI, mNwJ, mSwJ, mKwJ, mIwJ, mJwJ, mRwJ, mLwJ, mAIwJ, mAJwJ, mARwJ, mNwR, mSwR, mKwR, mIwR, mJwR, mRwR, mLwR, mAIwR, mAJwR, mARwR, mNwAI, mSwAI, mKwAI, mIwAI, mJwAI, mRwAI, mLwAI, mAIwAI, mAJwAI, mARwAI, mNwAJ, mSwAJ, mKwAJ, mIwAJ, mJwAJ, mRwAJ, mLwAJ, mAIwAJ, mAJwAJ, mARwAJ, mNwAR, mSwAR, mKwAR, mIwAR, mJwAR, mRwAR, mLwAR, mAIwAR, mAJwAR, mARwAR, okkwI, okkwJ, okkwR, okkwAI, okkwAJ, okkwAR]
  have f33 : mI M4 29 33 = 0 := by rw [e4, e3, e2]; simp [mNwI, mSwI, mKwI, mIwI, mJwI, mRwI, mLwI, mAIwI, mAJwI, mARwI, mNwJ, mSwJ, mKwJ, mIwJ, mJwJ, mRwJ, mLwJ, mAIwJ, mAJwJ, mARwJ, mNwR, mSwR, mKwR, mIwR, mJwR, mRwR, mLwR, mAIwR, mAJwR, mARwR, mNwAI, mSwAI, mKwAI, mIwAI, mJwAI, mRwAI, mLwAI, mAIwAI, mAJwAI, mARwAI, mNwAJ, mSwAJ, mKwAJ, mIwAJ, mJwAJ, mRwAJ, mLwAJ, mAIwAJ, mAJwAJ, mARwAJ, mNwAR, mSwAR, mKwAR, mIwAR, mJwAR, mRwAR, mLwAR, mAIwAR, mAJwAR, mARwAR, okkwI, okkwJ, okkwR, okkwAI, okkwAJ, okkwAR]
  have f5 : mI M4 29 5 = Int32.ofNat i := by rw [← t3, e4, e3, e2]; simp [mNwI, mSwI, mKwI, mIwI, mJwI, mRwI, mLwI, mAIwI, mAJwI, mARwI, mNwJ, mSwJ, mKwJ, mIwJ, mJwJ, mRwJ, mLwJ, mAIwJ, mAJwJ, mARwJ, mNwR, mSwR, mKwR, mIwR, mJwR, mRwR, mLwR, mAIwR, mAJwR, mARwR, mNwAI, mSwAI, mKwAI, mIwAI, mJwAI, mRwAI, mLwAI, mAIwAI, mAJwAI, mARwAI, mNwAJ, mSwAJ, mKwAJ, mIwAJ, mJwAJ, mRwAJ, mLwAJ, mAIwAJ, mAJwAJ, mARwAJ, mNwAR, mSwAR, mKwAR, mIwAR, mJwAR, mRwAR, mLwAR, mAIwAR, mAJwAR, mARwAR, okkwI, okkwJ, okkwR, okkwAI, okkwAJ, okkwAR]
  have f6 : mI M4 29 6 = 0 := by rw [← t4, e4, e3, e2]; simp [mNwI, mSwI, mKwI, mIwI, mJwI, mRwI, mLwI, mAIwI, mAJwI, mARwI, mNwJ, mSwJ, mKwJ, mIwJ, mJwJ, mRwJ, mLwJ, mAIwJ, mAJwJ, mARwJ, mNwR, mSwR, mKwR, mIwR, mJwR, mRwR, mLwR, mAIwR, mAJwR, mARwR, mNwAI, mSwAI, mKwAI, mIwAI, mJwAI, mRwAI, mLwAI, mAIwAI, mAJwAI, mARwAI, mNwAJ, mSwAJ, mKwAJ, mIwAJ, mJwAJ, mRwAJ, mLwAJ, mAIwAJ, mAJwAJ, mARwAJ, mNwAR, mSwAR, mKwAR, mIwAR, mJwAR, mRwAR, mLwAR, mAIwAR, mAJwAR, mARwAR, okkwI, okkwJ, okkwR, okkwAI, okkwAJ, okkwAR]
  have d4 : RPd m τ [] (σ0 A B C) M4 := by
    refine ⟨⟨by rw [row]; exact hc.1, fun k hk => absurd hk (Nat.not_lt_zero _)⟩, ⟨by rw [row]; exact hc.2.1, fun k hk => absurd hk (Nat.not_lt_zero _), fun k hk => by rw [row]; exact t7 k hk⟩, fun c z1 z2 z3 => by rw [row]; exact hA c z1 z2 z3, by rw [rowJ]; exact hN, ⟨by rw [row]; exact hc.2.2.1, by rw [row]; exact hc.2.2.2.1, by rw [row]; exact hc.2.2.2.2.1, by rw [row]; exact hc.2.2.2.2.2⟩, f53, ⟨f60, fun j hj => absurd hj (Nat.not_lt_zero _)⟩, ⟨f60, fun j hj => absurd hj (Nat.not_lt_zero _)⟩, ⟨f60, fun j hj => absurd hj (Nat.not_lt_zero _)⟩⟩
  refine P_newSeq F4 d4 (show (0 : Nat) < 100 by decide) (fun M5 d5 G5 k5 _ => ⟨_, rfl, ?_⟩)
  have d5 : RPd m τ [] (σI A B C) M5 := d5
  have G := G4.tr G5
  have R5 : RPs b n s m τ [] (σI A B C) M5 i 0 := ⟨t1.rg G, t2, by rw [k5 5 (by decide)]; exact f5, by rw [k5 6 (by decide)]; exact f6, by rw [k5 33 (by decide)]; exact f33, d5, Nat.zero_le _, Nat.zero_le _, Nat.zero_le _⟩
  have rr : EndZ b n s m τ [] 0 0 (h + 1) M5 Q (rp b n m τ 6000 0 [] i (σI A B C) 0 0 0 0 0 0) → SLp (h + 1) Q M5 := R_rp (h := h + 1) (Q := Q) hB hz hS hM 6000 (m := m) 0 [] i (σI A B C) 0 0 0 0 0 0 M5 (by decide) h0 σI_ok (fun e he => absurd he List.not_mem_nil) (fun z => absurd z (by decide)) R5 (by rw [w0]; omega)
  show SLp (h + 1) Q M5
  show SLp (h + 1) Q M5
  refine rr ?_
  unfold rdQ at hE
  have ok0 := rp_ok (τ := τ) (m := m) hS 6000 0 [] i (σI A B C) 0 0 0 0 0 0 (by decide) t2.2.2 h0 σI_ok
  cases e : rp b n m τ 6000 0 [] i (σI A B C) 0 0 0 0 0 0 with
  | error y =>
    rw [e] at hE
    exact fun M6 T6 G6 => hE M6 T6 (G.tr G6)
  | ok r =>
    rw [e] at hE ok0
    have hE : EndRP b n s m τ M Q (if tK b n r.1 = 1 then .ok r else .error (2, tP b n r.1)) := hE
    intro M6 R6 G6 n13
    have R6 : RPs b n s m τ [] r.2.1 M6 r.1 0 := R6
    have hk := R6.1.2.1 r.1 R6.2.1.2.2
    refine R_done R6 hB (n13 (by decide)) (fun k1 => ?_) (fun k1 M7 T7 G7 => ?_) (by rw [hk.1]; exact (rS_rel hB).1)
    · rw [if_pos k1] at hE
      exact hE M6 R6 (G.tr G6)
    · rw [if_neg k1] at hE
      exact hE M7 T7 ((G.tr G6).tr G7)
end
end
section
/-! the class: a new module, as its reading begins -/
/-- what of it the reading never touches -/
def MdN (n0 : Nat) (M : Mem) : Prop := (ALi M (n0 + 13) (mBig + 5) [] ∧ mR M (n0 + 8) 5 = some (n0 + 13)) ∧ (ALi M (n0 + 14) (mBig + 5) [] ∧ mR M (n0 + 8) 6 = some (n0 + 14)) ∧ (∀ c, c = 17 ∨ c = 18 ∨ c = 19 → ok M (n0 + c) 21 ∧ mL M (n0 + c) = 24) ∧ (mR M (n0 + 8) 9 = some (n0 + 17) ∧ mR M (n0 + 8) 10 = some (n0 + 18) ∧ mR M (n0 + 8) 11 = some (n0 + 19)) ∧ (mR M (n0 + 8) 14 = some (n0 + 21) ∧ ok M (n0 + 21) 21 ∧ mL M (n0 + 21) = 16 ∧ ∀ k, mAI M (n0 + 21) k = 0) ∧ (mI M (n0 + 8) 12 = 0 ∧ mI M (n0 + 8) 15 = 2) ∧ (mR M (n0 + 8) 2 = some (n0 + 11) ∧ ok M (n0 + 11) 21 ∧ mL M (n0 + 11) = 0) ∧ (mR M (n0 + 8) 3 = some (n0 + 12) ∧ ok M (n0 + 12) 21 ∧ mL M (n0 + 12) = 0) ∧ (mR M (n0 + 22) 2 = some (n0 + 24) ∧ ok M (n0 + 24) 23 ∧ mL M (n0 + 24) = 64) ∧ mR M n0 17 = none ∧ ∀ c k, 17 ≤ c → c ≤ 19 → mAI M (n0 + c) k = 0
section
variable {n0 : Nat} {Mb M M' : Mem}
/-- what a closed memory says of its shifted copy, and of what changed below it alone -/
theorem shK {i q : Nat} (hs : Sh n0 Mb M cpC) (k : fr (fun c => c < 132) M M') (hi : i < mN cpC) (e : mK cpC i = q) : ok M' (n0 + i) q := ok_E (hs.k hi e) k.1
theorem shRow {i : Nat} (hs : Sh n0 Mb M cpC) (hn : 132 ≤ n0) (k : fr (fun c => c < 132) M M') (hi : i < mN cpC) : sameRow M M' (n0 + i) := k.2 _ (by have := hs.1; omega) (fun z => by omega)
theorem shI {i q : Nat} {w : Int32} (hs : Sh n0 Mb M cpC) (hn : 132 ≤ n0) (k : fr (fun c => c < 132) M M') (hi : i < mN cpC) (hk : mK cpC i < 20) (e : mI cpC i q = w) : mI M' (n0 + i) q = w := by rw [(shRow hs hn k hi).1]; exact hs.rI hi hk e
theorem shR {i q a : Nat} (hs : Sh n0 Mb M cpC) (hn : 132 ≤ n0) (k : fr (fun c => c < 132) M M') (hi : i < mN cpC) (hk : mK cpC i < 20) (e : mR cpC i q = some a) (ha : a < mBig) : mR M' (n0 + i) q = some (n0 + a) := by rw [(shRow hs hn k hi).2.2.1]; exact hs.rR hi hk e ha
theorem shL {i q : Nat} (hs : Sh n0 Mb M cpC) (k : fr (fun c => c < 132) M M') (hi : i < mN cpC) (hk : 20 ≤ mK cpC i) (e : mL cpC i = q) : mL M' (n0 + i) = q := by rw [(k.1.2.2 _ (by have := hs.1; omega)).2]; exact hs.rL hi hk e
theorem shA' {i : Nat} (hs : Sh n0 Mb M cpC) (hn : 132 ≤ n0) (k : fr (fun c => c < 132) M M') (hi : i < mN cpC) (hk : 20 ≤ mK cpC i) : mAI M' (n0 + i) = mAI cpC i := by rw [(shRow hs hn k hi).2.2.2.1]; exact ((hs.2.2.2.2 i hi).2.2 hk).2.1
theorem shE {i q j : Nat} (hs : Sh n0 Mb M cpC) (hn : 132 ≤ n0) (k : fr (fun c => c < 132) M M') (hi : i < mN cpC) (hk : mK cpC i < 20) (e : mR cpC i q = some (mBig + j)) : mR M' (n0 + i) q = some (mBig + j) := by
  rw [(shRow hs hn k hi).2.2.1, ((hs.2.2.2.2 i hi).2.1 hk).2.2 q, e]
  exact shf_sp.symm
theorem shZ {i q : Nat} (hs : Sh n0 Mb M cpC) (hn : 132 ≤ n0) (k : fr (fun c => c < 132) M M') (hi : i < mN cpC) (hk : mK cpC i < 20) (e : mR cpC i q = none) : mR M' (n0 + i) q = none := by
  rw [(shRow hs hn k hi).2.2.1, ((hs.2.2.2.2 i hi).2.1 hk).2.2 q, e]
  rfl
theorem cp_ali {i : Nat} (hs : Sh n0 Mb M cpC) (hn : 132 ≤ n0) (k : fr (fun c => c < 132) M M') (hi : i < mN cpC) (hk : mK cpC i = 1) (e1 : mI cpC i 2 = 0) (e2 : mR cpC i 1 = some (mBig + 5)) {ci : Nat} : ALp M' (n0 + i) (mBig + 5) ci [] := ⟨shK hs k hi hk, shI hs hn k hi (by rw [hk]; decide) e1, Nat.zero_le _, fun v hv => absurd hv List.not_mem_nil, shE hs hn k hi (by rw [hk]; decide) e2, Or.inl ⟨rfl, rfl⟩⟩
theorem cp_md (hs : Sh n0 Mb M cpC) (hn : 132 ≤ n0) (k : fr (fun c => c < 132) M M') : MdN n0 M' := by
  refine ⟨⟨⟨[], cp_ali hs hn k (by decide) rfl rfl rfl, rfl, fun i hi => absurd hi (Nat.not_lt_zero _)⟩, shR hs hn k (by decide) (by decide) rfl (by decide)⟩, ⟨⟨[], cp_ali hs hn k (by decide) rfl rfl rfl, rfl, fun i hi => absurd hi (Nat.not_lt_zero _)⟩, shR hs hn k (by decide) (by decide) rfl (by decide)⟩, ?_, ⟨shR hs hn k (by decide) (by decide) rfl (by decide), shR hs hn k (by decide) (by decide) rfl (by decide), shR hs hn k (by decide) (by decide) rfl (by decide)⟩, ⟨shR hs hn k (by decide) (by decide) rfl (by decide), shK hs k (by decide) rfl, shL hs k (by decide) (by decide) rfl, fun q => by rw [shA' hs hn k (by decide) (by decide)]; rfl⟩, ⟨shI hs hn k (by decide) (by decide) rfl, shI hs hn k (by decide) (by decide) rfl⟩, ⟨shR hs hn k (by decide) (by decide) rfl (by decide), shK hs k (by decide) rfl, shL hs k (by decide) (by decide) rfl⟩, ⟨shR hs hn k (by decide) (by decide) rfl (by decide), shK hs k (by decide) rfl, shL hs k (by decide) (by decide) rfl⟩, ⟨shR hs hn k (by decide) (by decide) rfl (by decide), shK hs k (by decide) rfl, shL hs k (by decide) (by decide) rfl⟩, shZ (i := 0) hs hn k (by decide) (by decide) rfl, fun c q c1 c2 => by rcases (show c = 17 ∨ c = 18 ∨ c = 19 by omega) with rfl | rfl | rfl <;> (rw [shA' hs hn k (by decide) (by decide)]; rfl)⟩
  intro c hc
  rcases hc with rfl | rfl | rfl
  · exact ⟨shK hs k (by decide) rfl, shL hs k (by decide) (by decide) rfl⟩
  · exact ⟨shK hs k (by decide) rfl, shL hs k (by decide) (by decide) rfl⟩
  · exact ⟨shK hs k (by decide) rfl, shL hs k (by decide) (by decide) rfl⟩
theorem cp_cir (hs : Sh n0 Mb M cpC) (hn : 132 ≤ n0) (k : fr (fun c => c < 132) M M') : CirP M' (n0 + 8) (n0 + 9) (n0 + 10) (NT 0) := by
  have l9 : mL M' (n0 + 9) = 64 := shL hs k (by decide) (by decide) rfl
  have l10 : mL M' (n0 + 10) = 64 := shL hs k (by decide) (by decide) rfl
  have a9 := shA' (i := 9) hs hn k (by decide) (by decide)
  have a10 := shA' (i := 10) hs hn k (by decide) (by decide)
  refine ⟨shK hs k (by decide) rfl, shR hs hn k (by decide) (by decide) rfl (by decide), shK hs k (by decide) rfl, shR hs hn k (by decide) (by decide) rfl (by decide), shK hs k (by decide) rfl, shI hs hn k (by decide) (by decide) rfl, ⟨by decide, by rw [l9]; decide, by rw [l9, l10], by rw [l9]; decide, by rw [l9]; decide⟩, fun j hj => ?_, by decide, ⟨by omega, by omega, by omega⟩⟩
  have hj : j < 2 := hj
  rw [a9, a10]
  rcases (show j = 0 ∨ j = 1 by omega) with rfl | rfl
  · exact ⟨rfl, rfl⟩
  · exact ⟨rfl, rfl⟩
def td0 : Td := ([], [], [], [], [])
theorem cp_ct (hs : Sh n0 Mb M cpC) (hn : 132 ≤ n0) (k : fr (fun c => c < 132) M M') (e : mR M' 14 7 = some n0) : CT n0 td0 M' (n0 + 9) (n0 + 10) := by
  have hN : n0 + 25 ≤ mN M' := by have := k.1.1; have h1 := hs.1; have h2 : mN cpC = 25 := rfl; omega
  have r0 : ∀ q a, mR cpC 0 q = some a → a < mBig → mR M' n0 q = some (n0 + a) := fun q a e1 e2 => shR (i := 0) hs hn k (by decide) (by decide) e1 e2
  have i0 : ∀ q w, mI cpC 0 q = w → mI M' n0 q = w := fun q w e1 => shI (i := 0) hs hn k (by decide) (by decide) e1
  refine ⟨⟨⟨shK (i := 0) hs k (by decide) rfl, ⟨Nat.zero_le _, rfl, rfl, Nat.zero_le _⟩, i0 9 0 rfl, i0 12 0 rfl, r0 0 1 rfl (by decide), ⟨shK hs k (by decide) rfl, shL hs k (by decide) (by decide) rfl, fun j hj => absurd hj (Nat.not_lt_zero _)⟩, r0 1 2 rfl (by decide), ⟨shK hs k (by decide) rfl, shL hs k (by decide) (by decide) rfl, fun j hj => absurd hj (Nat.not_lt_zero _)⟩, r0 2 3 rfl (by decide), ⟨shK hs k (by decide) rfl, shL hs k (by decide) (by decide) rfl, fun j hj => absurd hj (Nat.not_lt_zero _)⟩, r0 4 5 rfl (by decide), ⟨shK hs k (by decide) rfl, shL hs k (by decide) (by decide) rfl, fun j hj => absurd hj (Nat.not_lt_zero _)⟩, r0 8 22 rfl (by decide)⟩, cp_cir hs hn k, Or.inl rfl, Or.inl rfl, r0 7 8 rfl (by decide), shR hs hn k (by decide) (by decide) rfl (by decide), ⟨shK hs k (by decide) rfl, shL hs k (by decide) (by decide) rfl, fun q hq => ⟨by rw [shA' hs hn k (by decide) (by decide)]; rfl, by show sgT 0 q < 4; unfold sgT; rw [if_neg (Nat.not_lt_zero _)]; decide⟩⟩, shR hs hn k (by decide) (by decide) rfl (by decide), ⟨shK hs k (by decide) rfl, shL hs k (by decide) (by decide) rfl, fun q hq => ⟨by rw [shA' hs hn k (by decide) (by decide)]; rfl, by show (0 : Nat) < 4; decide⟩⟩, e, hn, hN⟩, ⟨i0 10 0 rfl, by decide, r0 3 4 rfl (by decide), shK hs k (by decide) rfl, shL hs k (by decide) (by decide) rfl, fun j hj => absurd hj (Nat.not_lt_zero _)⟩, i0 11 0 rfl, ⟨r0 5 6 rfl (by decide), shK hs k (by decide) rfl, shL hs k (by decide) (by decide) rfl, rfl, fun j hj => absurd hj (Nat.not_lt_zero _)⟩, fun j _ _ => by rw [shA' hs hn k (by decide) (by decide)]; rfl⟩
/-- the sums, the lists, the references -/
theorem cp_ls (hs : Sh n0 Mb M cpC) (hn : 132 ≤ n0) (k : fr (fun c => c < 132) M M') : SumP M' (n0 + 22) (n0 + 23) [] ∧ ALp M' (n0 + 7) (mBig + 5) 5 [] ∧ ALi M' (n0 + 15) (mBig + 5) [] ∧ (mR M' n0 6 = some (n0 + 7) ∧ mR M' n0 8 = some (n0 + 22) ∧ mR M' (n0 + 8) 7 = some (n0 + 15)) ∧ (mI M' n0 14 = 0 ∧ mI M' n0 15 = 0) := by
  have l23 : mL M' (n0 + 23) = 16 := shL hs k (by decide) (by decide) rfl
  refine ⟨⟨shK hs k (by decide) rfl, shR hs hn k (by decide) (by decide) rfl (by decide), shK hs k (by decide) rfl, shI hs hn k (by decide) (by decide) rfl, Nat.zero_le _, by rw [l23]; decide, by rw [l23]; decide, fun j hj => absurd hj (Nat.not_lt_zero _)⟩, cp_ali hs hn k (by decide) rfl rfl rfl, ⟨[], cp_ali hs hn k (by decide) rfl rfl rfl, rfl, fun i hi => absurd hi (Nat.not_lt_zero _)⟩, ⟨shR (i := 0) hs hn k (by decide) (by decide) rfl (by decide), shR (i := 0) hs hn k (by decide) (by decide) rfl (by decide), shR hs hn k (by decide) (by decide) rfl (by decide)⟩, shI (i := 0) hs hn k (by decide) (by decide) rfl, shI (i := 0) hs hn k (by decide) (by decide) rfl⟩
end
end
