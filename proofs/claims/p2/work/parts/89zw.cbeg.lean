/-! the class begins a part -/
theorem op_ks {k : Int32} (h : opnK k = true) : k = 42 ∨ k = 44 ∨ k = 49 ∨ k = 50 ∨ k = 52 ∨ k = 53 ∨ k = 55 ∨ k = 58 ∨ k = 17 := by
  unfold opnK at h
  simp only [Bool.or_eq_true, beq_iff_eq] at h
  rcases h with (((((((h | h) | h) | h) | h) | h) | h) | h) | h
  · exact Or.inl h
  · exact Or.inr (Or.inl h)
  · exact Or.inr (Or.inr (Or.inl h))
  · exact Or.inr (Or.inr (Or.inr (Or.inl h)))
  · exact Or.inr (Or.inr (Or.inr (Or.inr (Or.inl h))))
  · exact Or.inr (Or.inr (Or.inr (Or.inr (Or.inr (Or.inl h)))))
  · exact Or.inr (Or.inr (Or.inr (Or.inr (Or.inr (Or.inr (Or.inl h))))))
  · exact Or.inr (Or.inr (Or.inr (Or.inr (Or.inr (Or.inr (Or.inr (Or.inl h)))))))
  · exact Or.inr (Or.inr (Or.inr (Or.inr (Or.inr (Or.inr (Or.inr (Or.inr h)))))))
theorem so_op {k : Int32} (h : opnK k = true) : soK k ≠ 99 := by
  rcases op_ks h with z | z | z | z | z | z | z | z | z <;> rw [z] <;> decide
theorem sal_ks {k : Int32} (h : sal k) : k = 37 ∨ k = 38 ∨ k = 39 ∨ k = 40 ∨ k = 41 ∨ k = 47 ∨ k = 57 := by
  rcases h with ⟨h1, h2⟩ | h | h
  · have a1 : 37 ≤ k.toInt := by
      have := Int32.not_lt.mp h1
      rw [Int32.le_iff_toInt_le] at this
      exact this
    have a2 : k.toInt ≤ 41 := by
      rw [Int32.le_iff_toInt_le] at h2
      exact h2
    rcases (show k.toInt = 37 ∨ k.toInt = 38 ∨ k.toInt = 39 ∨ k.toInt = 40 ∨ k.toInt = 41 by omega) with z | z | z | z | z
    · exact Or.inl (Int32.toInt_inj.mp z)
    · exact Or.inr (Or.inl (Int32.toInt_inj.mp z))
    · exact Or.inr (Or.inr (Or.inl (Int32.toInt_inj.mp z)))
    · exact Or.inr (Or.inr (Or.inr (Or.inl (Int32.toInt_inj.mp z))))
    · exact Or.inr (Or.inr (Or.inr (Or.inr (Or.inl (Int32.toInt_inj.mp z)))))
  · exact Or.inr (Or.inr (Or.inr (Or.inr (Or.inr (Or.inl h)))))
  · exact Or.inr (Or.inr (Or.inr (Or.inr (Or.inr (Or.inr h)))))
theorem so_sal {k : Int32} (h : sal k) : soK k ≠ 99 := by
  rcases sal_ks h with z | z | z | z | z | z | z <;> rw [z] <;> decide
theorem so_no {k : Int32} (h2 : k ≠ 2) (ho : ¬ opnK k = true) (hs : ¬ sal k) : soK k = 99 := by
  have a : ∀ c : Int32, opnK c = true → k ≠ c := fun c q z => ho (by rw [z]; exact q)
  have s : ∀ c : Int32, sal c → k ≠ c := fun c q z => hs (by rw [z]; exact q)
  unfold soK
  rw [if_neg (s 37 (Or.inl (by decide))), if_neg (s 38 (Or.inl (by decide))), if_neg (s 39 (Or.inl (by decide))), if_neg (s 40 (Or.inl (by decide))), if_neg (s 41 (Or.inl (by decide))), if_neg (a 42 (by decide)), if_neg (a 44 (by decide)), if_neg (s 47 (Or.inr (Or.inl rfl))), if_neg (a 49 (by decide)), if_neg (a 50 (by decide)), if_neg (a 52 (by decide)), if_neg (a 53 (by decide)), if_neg (a 55 (by decide)), if_neg (s 57 (Or.inr (Or.inr rfl))), if_neg (a 58 (by decide)), if_neg h2, if_neg (a 17 (by decide))]
theorem okK_d {k : Int32} {w : Int64} {d p : Nat} {τ : Td} {σ : PS} : okK k w d τ σ p = (okK k w 0 τ σ p).bind fun _ => if opnK k = true ∧ d = 15 then .error (6, p) else .ok () := by
  unfold okK
  by_cases h1 : k = 2 ∧ fd τ.2.2.2.1 w = none
  · rw [if_pos h1, if_pos h1]; rfl
  rw [if_neg h1, if_neg h1]
  by_cases h2 : soK k = 99
  · rw [if_pos h2, if_pos h2]; rfl
  rw [if_neg h2, if_neg h2]
  by_cases h3 : 40 ≤ npS σ ∨ 24 < σ.1.1 1 + paK k
  · rw [if_pos h3, if_pos h3]; rfl
  rw [if_neg h3, if_neg h3, if_neg (show ¬ (opnK k = true ∧ 0 = 15) from fun z => by omega)]
  rfl
section
variable {b : Nat → Int32} {n s n0 m : Nat} {τ : Td} {M0 M M' : Mem} {i o j g : Nat} {γ : ClT} {σ : PS} {K : List KE} {cn : Nat → Nat} {ps : List Nat} {tl : List Int64} {f k : Int32} {p t t' h B t0 t1 : Nat} {Q : Option Value → Mem → Prop} {Q1 : Int32 → Mem → Prop} {W : Nat}
theorem V_chk56 (X : CX n0 τ M0 W B M f p ps tl t) (H : Q none M) : DX4_checkBegin_56 (h + 2) 14 k M Q := by
  have F := X.1.1
  have N := X.nz
  have v85 : DX4_checkBegin_85 (h + 2) 14 M Q := by
    unfold DX4_checkBegin_85 DX4_checkBegin_94
    exact ⟨ok14 F, 15, rf14_0 F, ok15 F, V_fail X (fun _ => ⟨rfl, H⟩)⟩
  unfold DX4_checkBegin_56 DX4_checkBegin_94
  exact ⟨ok14 F, n0, N.2.2.2.2.2.1, N.2.2.1, n0 + 7, N.2.2.2.2.2.2.2.1, X.al, V_size X (fun _ => ⟨_, rfl, fun _ => v85, fun _ => S_pauses (fun _ => ⟨_, rfl, fun _ => H, fun _ => v85⟩)⟩)⟩
theorem Z_size (hC : CQ n0 τ M0 M γ cn ps tl) : ok M (n0 + 7) 1 ∧ ∀ Q' : Option Value → Mem → Prop, Q' (some (.int (Int32.ofNat ps.length))) M → E (h + 1) mdJx4a65c_size_8abf5 [.ref (n0 + 7)] M Q' := by
  obtain ⟨lc, rc, cc, pb, ib, h2⟩ := hC
  exact ⟨h2.2.2.2.1.1.1, fun Q' H => S_alSize h2.2.2.2.1.1 H⟩
theorem Z_check (hB : By b) (hC : CS b n s n0 τ M0 M i o σ.2.1 σ.1.1 ps tl) (h24 : σ.1.1 1 ≤ 24) (H1 : okK (tK b n i) (tC b n i) 0 τ σ (tP b n i) = .ok () → Q none M) (H0 : ∀ e, okK (tK b n i) (tC b n i) 0 τ σ (tP b n i) = .error e → ∀ M', CX n0 τ M0 (s + 70) 0 M' e.1 e.2 ps tl (trS σ).1 → Q none M') : E (h + 3) mdX4_checkBegin [.ref 14, .int (tK b n i)] M Q := by
  have F := hC.1.1
  have N := hC.2.1.nz
  have L := hC.len
  have pk : paK (tK b n i) ≤ 3 := by
    unfold paK
    by_cases z : tK b n i = 53
    · rw [if_pos z]; decide
    · rw [if_neg z]
      by_cases z2 : tK b n i = 38 ∨ tK b n i = 39 ∨ tK b n i = 41 ∨ tK b n i = 47 ∨ tK b n i = 49 ∨ tK b n i = 50
      · rw [if_pos z2]; decide
      · rw [if_neg z2]; decide
  have e4 : mI M 14 4 = Int32.ofNat (σ.1.1 1) := hC.2.1.rd.2.1
  have fl : ∀ c : Int32, c ≠ 0 → ∀ e : Int32 × Nat, e = (c, tP b n i) → okK (tK b n i) (tC b n i) 0 τ σ (tP b n i) = .error e → E (h + 2) mdX7_fail [.ref 15, .int c] M (fun r M1 => mE M M1 → r = none ∧ Q none M1 ∧ DX4_checkBegin_56 (h + 2) 14 (tK b n i) M1 Q) := by
    intro c hc e he ho
    refine Z_fail hC hc (fun M1 X1 _ => ?_)
    have q := H0 e ho M1 (by rw [he]; exact X1)
    exact ⟨rfl, q, V_chk56 X1 q⟩
  have go : ¬ (tK b n i = 2 ∧ fd τ.2.2.2.1 (tC b n i) = none) → soK (tK b n i) ≠ 99 → DX4_checkBegin_56 (h + 2) 14 (tK b n i) M Q := by
    intro q1 q2
    obtain ⟨oz, zs⟩ := Z_size (h := h + 1) hC.2.1
    unfold okK at H1 H0 fl
    rw [if_neg q1, if_neg q2] at H1 H0 fl
    have bad : (40 ≤ npS σ ∨ 24 < σ.1.1 1 + paK (tK b n i)) → DX4_checkBegin_85 (h + 2) 14 M Q := by
      intro z
      rw [if_pos z] at fl H0
      unfold DX4_checkBegin_85 DX4_checkBegin_94
      exact ⟨ok14 F, 15, rf14_0 F, ok15 F, Z_fail hC (by decide) (fun M1 X1 _ => ⟨rfl, H0 (6, tP b n i) rfl M1 X1⟩)⟩
    unfold DX4_checkBegin_56 DX4_checkBegin_94
    have np : npS σ = ps.length := L.2.2.2.1.symm
    refine ⟨ok14 F, n0, N.2.2.2.2.2.1, N.2.2.1, n0 + 7, N.2.2.2.2.2.2.2.1, oz, zs _ (fun _ => ⟨_, rfl, fun z => bad (Or.inl ?_), fun z => S_pauses (fun _ => ⟨_, rfl, fun z2 => ?_, fun z2 => bad (Or.inr ?_)⟩)⟩)⟩
    · have := (le32 (a := 40) (by decide) (by omega)).mp z
      omega
    · rw [e4, add32] at z2
      have z2 := (le32 (b := 24) (by omega) (by decide)).mp z2
      have z1 : ¬ 40 ≤ ps.length := fun y => z ((le32 (a := 40) (by decide) (by omega)).mpr y)
      rw [if_neg (show ¬ (40 ≤ npS σ ∨ 24 < σ.1.1 1 + paK (tK b n i)) by omega), if_neg (show ¬ (opnK (tK b n i) = true ∧ 0 = 15) from fun y => by omega)] at H1
      exact H1 rfl
    · rw [e4, add32] at z2
      have z1 : ¬ (σ.1.1 1 + paK (tK b n i)) ≤ 24 := fun y => z2 ((le32 (b := 24) (by omega) (by decide)).mpr y)
      omega
  refine KX4_checkBegin ?_
  unfold DX4_checkBegin_0
  refine ⟨fun k2 => S_stays (fun _ => ⟨_, rfl, fun z => ?_, fun z => S_alone (fun sa _ => ⟨_, rfl, fun _ => go (fun y => k2 y.1) (so_sal sa), fun y => absurd y (by decide)⟩) (fun sa _ => ⟨_, rfl, fun y => absurd rfl y, fun _ => ⟨ok14 F, 15, rf14_0 F, ok15 F, ?_⟩⟩)⟩), fun k2 => ⟨ok14 F, n0, N.2.2.2.2.2.1, 15, rf14_0 F, ok15 F, N.2.2.1, ?_⟩⟩
  · refine go (fun y => k2 y.1) (so_op ?_)
    by_cases q : opnK (tK b n i) = true
    · exact q
    · rw [if_neg q] at z; exact absurd rfl z
  · have no : ¬ opnK (tK b n i) = true := fun q => by rw [if_pos q] at z; exact absurd z (by decide)
    have e99 := so_no k2 no sa
    have ho : okK (tK b n i) (tC b n i) 0 τ σ (tP b n i) = .error (2, tP b n i) := by
      unfold okK
      rw [if_neg (fun y => k2 y.1), if_pos e99]
    refine Z_fail hC (by decide) (fun M1 X1 _ => ⟨rfl, V_chk56 X1 (H0 _ ho M1 X1)⟩)
  · rw [hC.1.word hB k2]
    refine S_varNamed hC.2.1.env (fun _ => ⟨_, rfl, fun z => ?_, fun z => ⟨15, rf14_0 F, ok15 F, ?_⟩⟩)
    · refine go (fun y => z ?_) (by rw [k2]; decide)
      rw [y.2]; rfl
    · have fn : fd τ.2.2.2.1 (tC b n i) = none := by
        cases e : fd τ.2.2.2.1 (tC b n i) with
        | none => rfl
        | some q =>
          rw [e] at z
          have := (fd_some e).1
          have := hC.2.1.env.2.1.2.2.2
          exact absurd z (oi_ne (by omega))
      have ho : okK (tK b n i) (tC b n i) 0 τ σ (tP b n i) = .error (4, tP b n i) := by
        unfold okK
        rw [if_pos ⟨k2, fn⟩]
      exact Z_fail hC (by decide) (fun M1 X1 _ => ⟨rfl, V_chk56 X1 (H0 _ ho M1 X1)⟩)
end
