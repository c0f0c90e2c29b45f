/-! the class reads parts: the comparison of an if -/
def cmM (b : Nat → Int32) (n m : Nat) (τ : Td) (j i o : Nat) (σ : PS) : Except (Int32 × Nat) (Nat × PS × Nat) := (suM b n m τ j 64 65 5 i o (paP (paP σ j 3 3) j 4 (Int32.ofNat (σ.1.1 2 - 1)))).bind fun r => if 7 ≤ tK b n r.1 ∧ tK b n r.1 ≤ 12 then (adv' b n r.1).bind fun i2 => (suM b n m τ j 66 67 6 i2 o (paP (raP r.2 (up2 r.2.1.2.1 68 (40 * m + j) (tK b n r.1 - 7))) j 7 (tK b n r.1))).bind fun q => .ok (q.1, (q.2.1, (q.2.2.1.1, q.2.2.1.2.1, (frL q.2.2.1.2.2.1).1, q.2.2.1.2.2.2.1, q.2.2.1.2.2.2.2.1 ++ [Int32.ofNat (2 * q.2.2.1.2.2.1.length)], q.2.2.1.2.2.2.2.2), q.2.2.2), 2 * q.2.2.1.2.2.1.length) else .error (2, tP b n r.1)
section
variable {b : Nat → Int32} {n s n0 m : Nat} {τ : Td} {M0 M M1 M' : Mem} {i o i' o' j : Nat} {γ : ClT} {σ : PS} {K : List KE} {cn cn' : Nat → Nat} {ps : List Nat} {tl : List Int64} {f c : Int32} {p t t' h B t0 : Nat} {Q : Option Value → Mem → Prop} {Q1 : Int32 → Mem → Prop} {P : Mem → Prop} {W : Nat}
theorem hdM_58 : hdM b n m τ 58 j i K σ = (cmM b n m τ j i (K.length + 1) σ).bind fun q => (ex b n q.1 45).bind fun i3 => .ok (i3, q.2.1, q.2.2, false, 0, none) := by
  show (suM b n m τ j 64 65 5 i (K.length + 1) (paP (paP σ j 3 3) j 4 (Int32.ofNat (σ.1.1 2 - 1)))).bind _ = _
  unfold cmM
  rw [ebA]
  congr 1
  funext r
  by_cases q : 7 ≤ tK b n r.1 ∧ tK b n r.1 ≤ 12
  · rw [if_pos q, if_pos q, ebA]
    congr 1
    funext i2
    rw [ebA]
    rfl
  · rw [if_neg q, if_neg q]
    rfl
theorem suM_cl {f1 f2 fo : Nat} {r : Nat × PS} (h : suM b n m τ j f1 f2 fo i o σ = .ok r) : r.2.2.1.2.2.1 = σ.2.1.2.2.1 ∧ r.2.2.1.2.2.2.2.1 = σ.2.1.2.2.2.2.1 ∧ r.2.1.1 = σ.1.1 ∧ trS r.2 = trS σ := by
  unfold suM at h
  obtain ⟨x, -, h⟩ := bind_ok h
  cases h
  exact ⟨rfl, rfl, rfl, rfl⟩
def EdM (b : Nat → Int32) (n s n0 : Nat) (τ : Td) (M0 : Mem) (o : Nat) (ps : List Nat) (tl : List Int64) (t : Nat) (Q : Int32 → Mem → Prop) (R : Except (Int32 × Nat) (Nat × PS × Nat)) : Prop := match R with
  | .ok q => ∀ M', CS b n s n0 τ M0 M' q.1 o q.2.1.2.1 q.2.1.1.1 ps tl → Q (Int32.ofNat q.2.2) M'
  | .error e => ∀ M' v, CX n0 τ M0 (s + 70) 4 M' e.1 e.2 ps tl t → Q v M'
theorem Z_cmp {H : Nat} (hB : By b) (hS : Sto b n s) (hC : CS b n s n0 τ M0 M i o σ.2.1 cn ps tl) (hcn : cn 0 = σ.1.1 0 ∧ cn 1 = σ.1.1 1 ∧ cn 2 + 1 = σ.1.1 2 ∧ cn 3 = σ.1.1 3) (h40 : σ.1.1 2 ≤ 40) (hj : j < ps.length) (ho : o ≤ 15) (hH : 80 ≤ H) (hE : EdM b n s n0 τ M0 o ps tl (trS σ).1 (fun v M' => Q (some (.int v)) M') (cmM b n m τ j i o σ)) : E H mdX4_readComparison [.ref 14, .ref (ps.getD j 0)] M Q := by
  obtain ⟨H, rfl⟩ : ∃ H', H = H' + 80 := ⟨H - 80, by omega⟩
  have F := hC.1.1
  have vx : ∀ (M2 : Mem) (f : Int32) (p B : Nat), B ≤ 2 → CX n0 τ M0 (s + 70) B M2 f p ps tl (trS σ).1 → EdM b n s n0 τ M0 o ps tl (trS σ).1 (fun v M' => Q (some (.int v)) M') (.error (f, p)) → DX4_readComparison_101 (H + 79) 14 (ps.getD j 0) M2 Q := by
    intro M2 f p B hB2 X2 hq
    have F2 := X2.1.1
    have N := X2.nz
    unfold DX4_readComparison_101
    refine ⟨ok14 F2, 15, rf14_0 F2, ok15 F2, V_adv X2 (fun _ => ⟨rfl, n0, N.2.2.2.2.2.1, N.2.2.1, n0 + 22, N.2.2.2.2.2.2.2.2.1, N.2.2.2.2.1, X2.part hj, fun M3 e3 => ?_⟩)⟩
    have X3 := X2.pt hj e3
    refine V_suM (h := H + 75) X3 (by omega) (fun M4 X4 => ?_)
    have N4 := X4.nz
    exact ⟨n0, N4.2.2.2.2.2.1, N4.2.2.1, n0 + 8, N4.2.2.2.2.2.2.1, N4.2.2.2.1, V_if X4 (by omega) (fun M5 v X5 _ => ⟨_, rfl, hq M5 v (X5.mono (Nat.le_refl _) (by omega))⟩)⟩
  have vx2 : ∀ (M2 : Mem) (f : Int32) (p B : Nat), B ≤ 2 → CX n0 τ M0 (s + 70) B M2 f p ps tl (trS σ).1 → EdM b n s n0 τ M0 o ps tl (trS σ).1 (fun v M' => Q (some (.int v)) M') (.error (f, p)) → DX4_readComparison_93 (H + 79) 14 (ps.getD j 0) M2 Q := by
    intro M2 f p B hB2 X2 hq
    have F2 := X2.1.1
    unfold DX4_readComparison_93
    exact ⟨ok14 F2, 15, rf14_0 F2, ok15 F2, V_fail X2 (fun _ => ⟨rfl, vx M2 f p B hB2 X2 hq⟩)⟩
  unfold cmM at hE
  refine KX4_readComparison ?_
  unfold DX4_readComparison_0
  refine ⟨(hC.2.1.part hj).1, fun M2 e2 => ?_⟩
  have C2 := hC.pt hj e2
  have F2 := C2.1.1
  have N2 := C2.2.1.nz
  refine ⟨ok14 F2, n0, N2.2.2.2.2.2.1, N2.2.2.1, fun M6 e6 => ?_⟩
  have i2 : mI M2 n0 14 = Int32.ofNat (σ.1.1 2 - 1) := by rw [C2.2.1.rd.2.2.2.2.1, show cn 2 = σ.1.1 2 - 1 by omega]
  rw [i2] at e6
  have C6 := C2.pt hj e6
  have N6 := C6.2.1.nz
  refine ⟨n0, N6.2.2.2.2.2.1, N6.2.2.1, fun M9 e9 => ?_⟩
  have i6 : mI M6 n0 14 + 1 = Int32.ofNat (σ.1.1 2) := by rw [C6.2.1.rd.2.2.2.2.1, succ32, hcn.2.2.1]
  rw [i6] at e9
  have C9 : CS b n s n0 τ M0 M9 i o (paP (paP σ j 3 3) j 4 (Int32.ofNat (σ.1.1 2 - 1))).2.1 σ.1.1 ps tl := ⟨TI_hi C6.1 (by rw [e9]; exact fr_wI (S := fun c => 132 ≤ c) N6.1), C6.2.1.w0 (Or.inl rfl) e9 hcn.2.1.symm hcn.1.symm (by rw [if_pos rfl]) (by rw [if_pos rfl]; exact hcn.2.2.2.symm), C6.2.2.1, C6.2.2.2.1, by have := hC.2.2.2.2.1; show σ.2.1.2.2.2.2.1.length ≤ _; omega, h40⟩
  have N9 := C9.2.1.nz
  refine ⟨n0, N9.2.2.2.2.2.1, N9.2.2.1, n0 + 22, N9.2.2.2.2.2.2.2.2.1, N9.2.2.2.2.1, fun M14 e14 => ?_⟩
  rw [C9.2.1.ln] at e14
  refine Z_suM (h := H + 7) (f1 := 64) (f2 := 65) (m := m) hB hS C9 hj ho e14 ?_
  have sok := suM_ok (F := True) (b := b) (n := n) (s := s) (i := i) (m := m) (τ := τ) (j := j) (f1 := 64) (f2 := 65) (fo := 5) (o := o) (σ := paP (paP σ j 3 3) j 4 (Int32.ofNat (σ.1.1 2 - 1))) hS hC.1.2.1.2.2 hC.1.2.2.2.2.2.2.2.2.2 (by decide) (by decide)
  cases es : suM b n m τ j 64 65 5 i o (paP (paP σ j 3 3) j 4 (Int32.ofNat (σ.1.1 2 - 1))) with
  | error y =>
    rw [es] at hE
    intro M20 X20
    have F20 := X20.1.1
    refine ⟨15, rf14_0 F20, ok15 F20, fun M23 e23 => ?_⟩
    have X23 := X20.pt hj e23
    have F23 := X23.1.1
    refine ⟨15, rf14_0 F23, ok15 F23, fun _ => vx2 M23 _ _ 1 (by decide) X23 hE, fun z => absurd (by rw [X23.1.2.2.2.2.2]; decide) z⟩
  | ok r =>
    rw [es] at hE sok
    obtain ⟨s1, s2, s3, -, s5⟩ := sok
    obtain ⟨g1, g2, g3, g4⟩ := suM_cl es
    have hE : EdM b n s n0 τ M0 o ps tl (trS σ).1 (fun v M' => Q (some (.int v)) M') (if 7 ≤ tK b n r.1 ∧ tK b n r.1 ≤ 12 then _ else _) := hE
    intro M20 C20
    have F20 := C20.1.1
    refine ⟨15, rf14_0 F20, ok15 F20, fun M23 e23 => ?_⟩
    rw [C20.1.kind] at e23
    have C23 := C20.pt hj e23
    have F23 := C23.1.1
    have kd := C23.1.kind
    have g4 : trS r.2 = trS σ := g4
    have bad : ¬ (7 ≤ tK b n r.1 ∧ tK b n r.1 ≤ 12) → DX4_readComparison_93 (H + 79) 14 (ps.getD j 0) M23 Q := by
      intro z
      rw [if_neg z] at hE
      unfold DX4_readComparison_93
      refine ⟨ok14 F23, 15, rf14_0 F23, ok15 F23, Z_fail C23 (by decide) (fun M24 X24 _ => ⟨rfl, vx M24 _ _ 0 (by decide) ?_ hE⟩)⟩
      have X24 : CX n0 τ M0 (s + 70) 0 M24 2 (tP b n r.1) ps tl (trS r.2).1 := X24
      rw [g4] at X24
      exact X24
    refine ⟨15, rf14_0 F23, ok15 F23, fun z => bad (fun y => ?_), fun z => ⟨15, rf14_0 F23, ok15 F23, fun z2 => ?_, fun z2 => bad (fun y => ?_)⟩⟩
    · rw [kd] at z; exact absurd y.1 (Int32.not_le.mpr z)
    · rw [kd] at z z2
      have z : 7 ≤ tK b n r.1 := Int32.not_lt.mp z
      rw [if_pos ⟨z, z2⟩] at hE
      unfold DX4_readComparison_101
      refine ⟨ok14 F23, 15, rf14_0 F23, ok15 F23, Z_adv hS C23 (fun y => by rw [y] at z; exact absurd z (by decide)) ?_⟩
      cases ea : adv' b n r.1 with
      | error y =>
        rw [ea] at hE
        intro M24 X24 _
        have X24 : CX n0 τ M0 (s + 70) 0 M24 y.1 y.2 ps tl (trS r.2).1 := X24
        rw [g4] at X24
        have N := X24.nz
        refine ⟨rfl, n0, N.2.2.2.2.2.1, N.2.2.1, n0 + 22, N.2.2.2.2.2.2.2.2.1, N.2.2.2.2.1, X24.part hj, fun M3 e3 => ?_⟩
        have X3 := X24.pt hj e3
        refine V_suM (h := H + 75) X3 (by omega) (fun M4 X4 => ?_)
        have N4 := X4.nz
        exact ⟨n0, N4.2.2.2.2.2.1, N4.2.2.1, n0 + 8, N4.2.2.2.2.2.2.1, N4.2.2.2.1, V_if X4 (by omega) (fun M5 v X5 _ => ⟨_, rfl, hE M5 v (X5.mono (Nat.le_refl _) (by omega))⟩)⟩
      | ok i2 =>
        rw [ea] at hE
        have hE : EdM b n s n0 τ M0 o ps tl (trS σ).1 (fun v M' => Q (some (.int v)) M') ((suM b n m τ j 66 67 6 i2 o (paP (raP r.2 (up2 r.2.1.2.1 68 (40 * m + j) (tK b n r.1 - 7))) j 7 (tK b n r.1))).bind _) := hE
        intro M24 C24 _
        have N := C24.2.1.nz
        refine ⟨rfl, n0, N.2.2.2.2.2.1, N.2.2.1, n0 + 22, N.2.2.2.2.2.2.2.2.1, N.2.2.2.2.1, (C24.2.1.part hj).1, fun M3 e3 => ?_⟩
        rw [C24.2.1.ln] at e3
        refine Z_suM (h := H + 7) (f1 := 66) (f2 := 67) (fo := 6) (m := m) (σ := paP (raP r.2 (up2 r.2.1.2.1 68 (40 * m + j) (tK b n r.1 - 7))) j 7 (tK b n r.1)) hB hS C24 hj ho e3 ?_
        have i2l := C24.len.2.2.1
        have sok2 := suM_ok (F := True) (b := b) (n := n) (s := s) (i := i2) (m := m) (τ := τ) (j := j) (f1 := 66) (f2 := 67) (fo := 6) (o := o) (σ := paP (raP r.2 (up2 r.2.1.2.1 68 (40 * m + j) (tK b n r.1 - 7))) j 7 (tK b n r.1)) hS i2l C24.1.2.2.2.2.2.2.2.2.2 (by decide) (by decide)
        cases es2 : suM b n m τ j 66 67 6 i2 o (paP (raP r.2 (up2 r.2.1.2.1 68 (40 * m + j) (tK b n r.1 - 7))) j 7 (tK b n r.1)) with
        | error y =>
          rw [es2] at hE
          intro M4 X4
          have X4 : CX n0 τ M0 (s + 70) 1 M4 y.1 y.2 ps tl (trS r.2).1 := X4
          rw [g4] at X4
          have N4 := X4.nz
          exact ⟨n0, N4.2.2.2.2.2.1, N4.2.2.1, n0 + 8, N4.2.2.2.2.2.2.1, N4.2.2.2.1, V_if X4 (by omega) (fun M5 v X5 _ => ⟨_, rfl, hE M5 v (X5.mono (Nat.le_refl _) (by omega))⟩)⟩
        | ok q =>
          rw [es2] at hE sok2
          obtain ⟨v1, v2, v3, -, v5⟩ := sok2
          obtain ⟨w1, w2, w3, w4⟩ := suM_cl es2
          have w1 : q.2.2.1.2.2.1 = σ.2.1.2.2.1 := w1.trans g1
          have w2 : q.2.2.1.2.2.2.2.1 = σ.2.1.2.2.2.2.1 := w2.trans g2
          have w3 : q.2.1.1 = σ.1.1 := w3.trans g3
          intro M4 C4
          have N4 := C4.2.1.nz
          have i2r : r.1 ≤ i2 := by
            unfold adv' at ea
            split at ea
            · cases ea
            · cases ea; omega
          refine ⟨n0, N4.2.2.2.2.2.1, N4.2.2.1, n0 + 8, N4.2.2.2.2.2.2.1, N4.2.2.2.1, Z_if C4 (by have := hC.2.2.2.2.1; rw [w2]; omega) (by have := hC.2.2.1; rw [w1]; omega) (fun M5 C5 _ => ⟨_, rfl, ?_⟩)⟩
          refine hE M5 ?_
          show CS b n s n0 τ M0 M5 q.1 o _ q.2.1.1 ps tl
          rw [w3]
          exact C5
    · rw [kd] at z2; exact absurd y.2 z2
end
