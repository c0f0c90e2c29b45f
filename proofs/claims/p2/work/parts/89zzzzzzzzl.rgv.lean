/-! the reference's governors: what is asked of them, how they are kept and brought back -/
theorem in_nat {x : Int32} {k : Nat} (hk : k ≤ 100000) : ((0 : Int64) ≤ x.toInt64 ∧ x.toInt64 ≤ (Int32.ofNat k - 1).toInt64) ↔ ∃ i, i < k ∧ x = Int32.ofNat i := by
  have e1 : (Int32.ofNat k - 1).toInt = (k : Int) - 1 := by
    have e0 : (Int32.ofNat k).toInt = k := ti32 (by omega)
    have e6 : (1 : Int32).toInt = 1 := by decide
    rw [j_sub, e0, e6]; omega
  have z : (0 : Int64).toInt = 0 := by decide
  rw [Int64.le_iff_toInt_le, Int64.le_iff_toInt_le, Int32.toInt_toInt64, Int32.toInt_toInt64, e1, z]
  constructor
  · rintro ⟨h1, h2⟩
    refine ⟨x.toInt.toNat, by omega, Int32.toInt_inj.mp ?_⟩
    rw [ti32 (by omega)]; omega
  · rintro ⟨i, hi, rfl⟩
    rw [ti32 (by omega)]; omega
/-- the row that tells who is ahead of its first beat holds truths -/
def Bo (M : Mem) : Prop := ∀ j, mAI M 103 j = 0 ∨ mAI M 103 j = 1
/-- the reference: how many modules and governors; each governor's module, and how often it is kept; counts of each module -/
def RGs (M : Mem) (mods govs : Nat) : Prop := Fix M ∧ (mI M 29 18 = Int32.ofNat mods ∧ mods ≤ 4 ∧ Bo M) ∧ (mI M 29 91 = Int32.ofNat govs ∧ govs ≤ 8) ∧ (∀ g, g < govs → ∃ m, m < mods ∧ mAI M 102 g = Int32.ofNat m) ∧ (∀ g, g < govs → ∃ q, q ≤ 3 ∧ mAI M 110 g = Int32.ofNat q) ∧ ∀ m, m < mods → (∃ k, k ≤ 16 ∧ mAI M 34 m = Int32.ofNat k) ∧ (∃ k, k ≤ 4 ∧ mAI M 35 m = Int32.ofNat k) ∧ (∃ k, k ≤ 6 ∧ mAI M 36 m = Int32.ofNat k) ∧ (∃ k, k ≤ 40 ∧ mAI M 54 m = Int32.ofNat k) ∧ (∃ k, k ≤ 24 ∧ mAI M 55 m = Int32.ofNat k)
section
variable {M M' : Mem} {mods govs h : Nat} {Q : Option Value → Mem → Prop} {x y z : Int32}
theorem S_inN {k : Nat} (hk : k ≤ 100000) (K1 : ∀ i, i < k → x = Int32.ofNat i → Q (some (.int 1)) M) (K0 : (∀ i, i < k → x ≠ Int32.ofNat i) → Q (some (.int 0)) M) : E (h + 1) mdX11_in [.long x.toInt64, .long 0, .long ((Int32.ofNat k - 1 : Int32).toInt64)] M Q := by
  refine S_in ?_
  by_cases z : (0 : Int64) ≤ x.toInt64 ∧ x.toInt64 ≤ (Int32.ofNat k - 1).toInt64
  · rw [if_pos z]
    obtain ⟨i, hi, e⟩ := (in_nat hk).mp z
    exact K1 i hi e
  · rw [if_neg z]
    exact K0 (fun i hi e => z ((in_nat hk).mpr ⟨i, hi, e⟩))
theorem R_isMod (hR : RGs M mods govs) (K1 : ∀ i, i < mods → x = Int32.ofNat i → Q (some (.int 1)) M) (K0 : (∀ i, i < mods → x ≠ Int32.ofNat i) → Q (some (.int 0)) M) : E (h + 2) mdX11_isModule [.ref 29, .int x] M Q := by
  obtain ⟨F, ⟨e18, hm⟩, -⟩ := hR
  refine KX11_isModule (h := h + 1) ?_
  unfold DX11_isModule_0
  rw [e18]
  exact ⟨ok29 F, S_inN (h := h) (by omega) (fun i hi e _ => ⟨1, rfl, Or.inr rfl, K1 i hi e⟩) (fun z _ => ⟨0, rfl, Or.inl rfl, K0 z⟩)⟩
theorem R_isGov (hR : RGs M mods govs) (K1 : ∀ i, i < govs → x = Int32.ofNat i → Q (some (.int 1)) M) (K0 : (∀ i, i < govs → x ≠ Int32.ofNat i) → Q (some (.int 0)) M) : E (h + 2) mdX11_isGovernor [.ref 29, .int x] M Q := by
  obtain ⟨F, -, ⟨e91, hg⟩, -⟩ := hR
  refine KX11_isGovernor (h := h + 1) ?_
  unfold DX11_isGovernor_0
  rw [e91]
  exact ⟨ok29 F, S_inN (h := h) (by omega) (fun i hi e _ => ⟨1, rfl, Or.inr rfl, K1 i hi e⟩) (fun z _ => ⟨0, rfl, Or.inl rfl, K0 z⟩)⟩
theorem R_present (hR : RGs M mods govs) (K : ∀ r : Int32, Q (some (.int r)) M) : E (h + 3) mdX11_present [.ref 29, .int x, .int y] M Q := by
  obtain ⟨F, ⟨-, hm⟩, ⟨-, hg⟩, gm, -, mc⟩ := id hR
  refine KX11_present (h := h + 2) ?_
  unfold DX11_present_0 DX11_present_44 DX11_present_45
  refine ⟨ok29 F, R_isGov (h := h) hR (fun i hi e _ => ⟨1, rfl, fun z => absurd z (by decide), fun _ => ?_⟩) (fun _ _ => ⟨0, rfl, fun _ => K _, fun z => absurd rfl z⟩)⟩
  obtain ⟨m, hm2, em⟩ := gm i hi
  obtain ⟨⟨k, hk, ek⟩, -⟩ := mc m hm2
  rw [e, lt32 (show i < 2147483648 by omega)]
  refine ⟨34, rf29_8 F, 102, rf29_92 F, ok102 F, by rw [ln102 F]; exact vp_of (by omega) (by decide), ok34 F, ?_⟩
  rw [em, lt32 (show m < 2147483648 by omega), ek]
  refine ⟨by rw [ln34 F]; exact vp_of (by omega) (by decide), S_inN (h := h + 1) (by omega) (fun j hj ey _ => ⟨1, rfl, fun z => absurd z (by decide), fun _ => ⟨116, rf29_106 F, ok116 F, by rw [ln116 F]; exact vp_of (by omega) (by decide), K _⟩⟩) (fun _ _ => ⟨0, rfl, fun _ => K _, fun z => absurd rfl z⟩)⟩
theorem R_value (hR : RGs M mods govs) (K : ∀ r : Int32, Q (some (.int r)) M) : E (h + 3) mdX11_value [.ref 29, .int x, .int y] M Q := by
  obtain ⟨F, ⟨-, hm⟩, ⟨-, hg⟩, gm, -, mc⟩ := id hR
  refine KX11_value (h := h + 2) ?_
  unfold DX11_value_0 DX11_value_46 DX11_value_47
  refine ⟨ok29 F, R_isGov (h := h) hR (fun i hi e _ => ⟨1, rfl, fun z => absurd z (by decide), fun _ => ?_⟩) (fun _ _ => ⟨0, rfl, fun _ => K _, fun z => absurd rfl z⟩)⟩
  obtain ⟨m, hm2, em⟩ := gm i hi
  obtain ⟨⟨k, hk, ek⟩, -⟩ := mc m hm2
  rw [e, lt32 (show i < 2147483648 by omega)]
  refine ⟨34, rf29_8 F, 102, rf29_92 F, ok102 F, by rw [ln102 F]; exact vp_of (by omega) (by decide), ok34 F, ?_⟩
  rw [em, lt32 (show m < 2147483648 by omega), ek]
  refine ⟨by rw [ln34 F]; exact vp_of (by omega) (by decide), S_inN (h := h + 1) (by omega) (fun j hj ey _ => ⟨1, rfl, fun z => absurd z (by decide), fun _ => ⟨107, rf29_97 F, ok107 F, ?_, K _⟩⟩) (fun _ _ => ⟨0, rfl, fun _ => K _, fun z => absurd rfl z⟩)⟩
  have e16 : 16 * Int32.ofNat i + Int32.ofNat j = Int32.ofNat (16 * i + j) := by rw [Int32.ofNat_add, Int32.ofNat_mul]; rfl
  rw [ey, e16, ln107 F]
  exact vp_of (by omega) (by decide)
theorem R_variable (hR : RGs M mods govs) (K : ∀ r : Int32, Q (some (.int r)) M) : E (h + 3) mdX11_variable [.ref 29, .int x, .int y] M Q := by
  obtain ⟨F, ⟨-, hm⟩, ⟨-, hg⟩, gm, -, mc⟩ := id hR
  refine KX11_variable (h := h + 2) ?_
  unfold DX11_variable_0 DX11_variable_46 DX11_variable_47
  refine ⟨ok29 F, R_isGov (h := h) hR (fun i hi e _ => ⟨1, rfl, fun z => absurd z (by decide), fun _ => ?_⟩) (fun _ _ => ⟨0, rfl, fun _ => K _, fun z => absurd rfl z⟩)⟩
  obtain ⟨m, hm2, em⟩ := gm i hi
  obtain ⟨-, -, ⟨k, hk, ek⟩, -⟩ := mc m hm2
  rw [e, lt32 (show i < 2147483648 by omega)]
  refine ⟨36, rf29_10 F, 102, rf29_92 F, ok102 F, by rw [ln102 F]; exact vp_of (by omega) (by decide), ok36 F, ?_⟩
  rw [em, lt32 (show m < 2147483648 by omega), ek]
  refine ⟨by rw [ln36 F]; exact vp_of (by omega) (by decide), S_inN (h := h + 1) (by omega) (fun j hj ey _ => ⟨1, rfl, fun z => absurd z (by decide), fun _ => ⟨108, rf29_98 F, ok108 F, ?_, K _⟩⟩) (fun _ _ => ⟨0, rfl, fun _ => K _, fun z => absurd rfl z⟩)⟩
  have e16 : 6 * Int32.ofNat i + Int32.ofNat j = Int32.ofNat (6 * i + j) := by rw [Int32.ofNat_add, Int32.ofNat_mul]; rfl
  rw [ey, e16, ln108 F]
  exact vp_of (by omega) (by decide)
theorem R_paused (hR : RGs M mods govs) (K : ∀ r : Int32, Q (some (.int r)) M) : E (h + 3) mdX11_paused [.ref 29, .int x, .int y] M Q := by
  obtain ⟨F, ⟨-, hm⟩, ⟨-, hg⟩, gm, -, mc⟩ := id hR
  refine KX11_paused (h := h + 2) ?_
  unfold DX11_paused_0 DX11_paused_44 DX11_paused_45
  refine ⟨ok29 F, R_isGov (h := h) hR (fun i hi e _ => ⟨1, rfl, fun z => absurd z (by decide), fun _ => ?_⟩) (fun _ _ => ⟨0, rfl, fun _ => K _, fun z => absurd rfl z⟩)⟩
  obtain ⟨m, hm2, em⟩ := gm i hi
  obtain ⟨-, -, -, -, ⟨k, hk, ek⟩⟩ := mc m hm2
  rw [e, lt32 (show i < 2147483648 by omega)]
  refine ⟨55, rf29_35 F, 102, rf29_92 F, ok102 F, by rw [ln102 F]; exact vp_of (by omega) (by decide), ok55 F, ?_⟩
  rw [em, lt32 (show m < 2147483648 by omega), ek]
  exact ⟨by rw [ln55 F]; exact vp_of (by omega) (by decide), S_inN (h := h + 1) (by omega) (fun j hj ey _ => ⟨1, rfl, fun z => absurd z (by decide), fun _ => ⟨105, rf29_95 F, ok105 F, by rw [ln105 F]; exact vp_of (by omega) (by decide), K _⟩⟩) (fun _ _ => ⟨0, rfl, fun _ => K _, fun z => absurd rfl z⟩)⟩
theorem R_wire (hR : RGs M mods govs) (K : ∀ r : Int32, Q (some (.int r)) M) : E (h + 3) mdX11_wire [.ref 29, .int x, .int y, .int z] M Q := by
  obtain ⟨F, ⟨-, hm⟩, ⟨-, hg⟩, gm, -, mc⟩ := id hR
  refine KX11_wire (h := h + 2) ?_
  unfold DX11_wire_0 DX11_wire_62 DX11_wire_63
  refine ⟨ok29 F, R_isGov (h := h) hR (fun i hi e _ => ⟨1, rfl, fun z => absurd z (by decide), fun _ => ?_⟩) (fun _ _ => ⟨0, rfl, fun _ => K _, fun z => absurd rfl z⟩)⟩
  obtain ⟨m, hm2, em⟩ := gm i hi
  obtain ⟨-, -, -, ⟨k, hk, ek⟩, -⟩ := mc m hm2
  rw [e, lt32 (show i < 2147483648 by omega)]
  refine ⟨54, rf29_34 F, 102, rf29_92 F, ok102 F, by rw [ln102 F]; exact vp_of (by omega) (by decide), ok54 F, ?_⟩
  rw [em, lt32 (show m < 2147483648 by omega), ek]
  refine ⟨by rw [ln54 F]; exact vp_of (by omega) (by decide), S_inN (h := h + 1) (by omega) (fun j hj ey _ => ⟨1, rfl, fun z => absurd z (by decide), fun _ => ?_⟩) (fun _ _ => ⟨0, rfl, fun _ => K _, fun z => absurd rfl z⟩)⟩
  have e5 : (4 : Int64) = (Int32.ofNat 5 - 1).toInt64 := by decide
  rw [e5]
  refine S_inN (h := h + 1) (by decide) (fun w hw ew _ => ⟨1, rfl, fun z => absurd z (by decide), fun _ => ⟨117, rf29_107 F, ok117 F, ?_, K _⟩⟩) (fun _ _ => ⟨0, rfl, fun _ => K _, fun z => absurd rfl z⟩)
  have e16 : 200 * Int32.ofNat i + 5 * Int32.ofNat j + Int32.ofNat w = Int32.ofNat (200 * i + 5 * j + w) := by rw [Int32.ofNat_add, Int32.ofNat_add, Int32.ofNat_mul, Int32.ofNat_mul]; rfl
  rw [ey, ew, e16, ln117 F]
  exact vp_of (by omega) (by decide)
theorem S_bits (K : ∀ r : Int32, Q (some (.int r)) M) : E (h + 1) mdX11_bits [.int x] M Q := by
  have main : ∀ d i (s : Int32), i + d = 31 → T (h + 1) mdX11_bits 4 [(0, .int x), (1, .int s), (2, .int (Int32.ofNat i))] [] M Q := by
    intro d
    induction d with
    | zero =>
      intro i s hi
      have e : i = 31 := by omega
      subst e
      refine VX11_bits_4 ?_
      unfold DX11_bits_4
      exact ⟨fun _ => K _, fun z => absurd Int32.le_rfl z⟩
    | succ d ih =>
      intro i s hi
      have nle : ¬ (31 : Int32) ≤ Int32.ofNat i := fun z => by
        have := (le32 (a := 31) (by decide) (by omega)).mp z
        omega
      refine VX11_bits_4 ?_
      unfold DX11_bits_4
      rw [succ32]
      exact ⟨fun z => absurd z nle, fun _ => ih (i + 1) _ (by omega)⟩
  refine KX11_bits ?_
  unfold DX11_bits_0
  exact main 31 0 0 (by omega)
theorem R_told (hR : RGs M mods govs) (K : ∀ r : Int32, Q (some (.int r)) M) : E (h + 3) mdX11_told [.ref 29, .int x, .int y] M Q := by
  obtain ⟨F, ⟨-, hm⟩, ⟨-, hg⟩, -⟩ := id hR
  refine KX11_told (h := h + 2) ?_
  unfold DX11_told_0 DX11_told_87
  refine ⟨ok29 F, R_isGov (h := h) hR (fun i hi e _ => ⟨1, rfl, fun _ => ?_, fun z => absurd z (by decide)⟩) (fun _ _ => ⟨0, rfl, fun z => absurd rfl z, fun _ => K _⟩)⟩
  have v : ∀ {k n : Nat}, k = n → 8 ≤ n → n < 100000 → vp_in x k := fun e1 h1 h2 => by rw [e, e1]; exact vp_of (by omega) (by omega)
  exact ⟨fun _ => ⟨109, rf29_99 F, ok109 F, v (ln109 F) (by decide) (by decide), K _⟩, fun _ => ⟨105, rf29_95 F, ok105 F, v (ln105 F) (by decide) (by decide), S_bits (h := h + 1) (fun r _ => ⟨r, rfl, K _⟩)⟩, fun _ => ⟨104, rf29_94 F, ok104 F, v (ln104 F) (by decide) (by decide), fun _ => K _, fun _ => K _⟩, fun _ => ⟨113, rf29_103 F, ok113 F, v (ln113 F) (by decide) (by decide), K _⟩, fun _ => ⟨114, rf29_104 F, ok114 F, v (ln114 F) (by decide) (by decide), K _⟩, fun _ => ⟨115, rf29_105 F, ok115 F, v (ln115 F) (by decide) (by decide), K _⟩, fun _ => ⟨102, rf29_92 F, ok102 F, v (ln102 F) (by decide) (by decide), K _⟩, fun _ => ⟨110, rf29_100 F, ok110 F, v (ln110 F) (by decide) (by decide), K _⟩, fun _ => K _⟩
end
