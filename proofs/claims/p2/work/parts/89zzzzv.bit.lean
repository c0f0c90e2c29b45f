/-! codes, bit by bit: what the reference makes of them is what the class makes -/
def cbI (v : Int32) : Prop := v.toBitVec.toNat < 1048576
theorem sh31 : ∀ k : Fin 32, ((Int32.ofNat k.val &&& 31).toBitVec.smod 32).toNat = k.val := by decide +kernel
theorem negTP : ∀ k : Fin 32, -(BitVec.twoPow 32 k.val) = BitVec.allOnes 32 <<< k.val := by decide +kernel
theorem ltTP : ∀ i j : Fin 20, (Int32.ofBitVec (BitVec.twoPow 32 i.val) < Int32.ofBitVec (BitVec.twoPow 32 j.val)) ↔ i.val < j.val := by decide +kernel
section
variable {v a c : Int32} {k i : Nat}
theorem cb_msb (h : cbI v) : v.toBitVec.msb = false := by
  rw [BitVec.msb_eq_false_iff_two_mul_lt]
  unfold cbI at h
  omega
theorem shr_b (hk : k < 32) (h : cbI v) : (v >>> (Int32.ofNat k &&& 31)).toBitVec = v.toBitVec >>> k := by
  rw [Int32.toBitVec_shiftRight, BitVec.sshiftRight_eq', sh31 ⟨k, hk⟩, BitVec.sshiftRight_eq_of_msb_false (cb_msb h)]
theorem shl_b (hk : k < 32) : (v <<< (Int32.ofNat k &&& 31)).toBitVec = v.toBitVec <<< k := by
  rw [Int32.toBitVec_shiftLeft, BitVec.shiftLeft_eq', sh31 ⟨k, hk⟩]
theorem cb_or (h1 : cbI a) (h2 : cbI c) : cbI (a ||| c) := by
  unfold cbI at *
  rw [Int32.toBitVec_or, BitVec.toNat_or]
  exact Nat.or_lt_two_pow (n := 20) h1 h2
theorem cb_and (h1 : cbI a) : cbI (a &&& c) := by
  unfold cbI at *
  rw [Int32.toBitVec_and, BitVec.toNat_and]
  exact Nat.lt_of_le_of_lt Nat.and_le_left h1
theorem bit_0 (hk : k < 32) (h : cbI v) : ((v >>> (Int32.ofNat k &&& 31)) &&& 1 = 0) ↔ v.toBitVec.getLsbD k = false := by
  have e1 : (v >>> (Int32.ofNat k &&& 31)) &&& 1 = 0 ↔ ((v >>> (Int32.ofNat k &&& 31)) &&& 1).toBitVec = (0 : Int32).toBitVec := ⟨fun e => by rw [e], fun e => Int32.toBitVec_inj.mp e⟩
  rw [e1, Int32.toBitVec_and, shr_b hk h]
  have e2 : (1 : Int32).toBitVec = 1#32 := rfl
  have e3 : (0 : Int32).toBitVec = 0#32 := rfl
  rw [e2, e3, BitVec.and_one_eq_setWidth_ofBool_getLsbD, BitVec.getLsbD_ushiftRight, Nat.add_zero]
  cases v.toBitVec.getLsbD k <;> decide
theorem lw_gen (h : cbI v) : ∀ (f k : Nat), f + k = 30 → (∀ j, j < k → v.toBitVec.getLsbD j = false) → (∀ j, j < lwF v f k → v.toBitVec.getLsbD j = false) ∧ (lwF v f k < 30 → v.toBitVec.getLsbD (lwF v f k) = true) ∧ lwF v f k ≤ 30 := by
  intro f
  induction f with
  | zero =>
    intro k hk hj
    unfold lwF
    exact ⟨hj, fun z => absurd z (by omega), by omega⟩
  | succ f ih =>
    intro k hk hj
    unfold lwF
    by_cases e : (v >>> (Int32.ofNat k &&& 31)) &&& 1 = 0
    · rw [if_pos e]
      refine ih (k + 1) (by omega) (fun j h1 => ?_)
      by_cases ej : j = k
      · rw [ej]; exact (bit_0 (by omega) h).mp e
      · exact hj j (by omega)
    · rw [if_neg e]
      refine ⟨hj, fun _ => ?_, by omega⟩
      cases hb : v.toBitVec.getLsbD k with
      | true => rfl
      | false => exact absurd ((bit_0 (by omega) h).mpr hb) e
theorem lw_is (h : cbI v) (hz : v ≠ 0) : lwI v < 20 ∧ v.toBitVec.getLsbD (lwI v) = true ∧ ∀ j, j < lwI v → v.toBitVec.getLsbD j = false := by
  obtain ⟨h1, h2, h3⟩ := lw_gen h 30 0 rfl (fun j hj => absurd hj (Nat.not_lt_zero _))
  have hb : ∀ j, 20 ≤ j → v.toBitVec.getLsbD j = false := fun j hj => by
    show v.toBitVec.toNat.testBit j = false
    refine Nat.testBit_lt_two_pow (Nat.lt_of_lt_of_le h ?_)
    exact Nat.pow_le_pow_right (n := 2) (by decide) hj
  have h4 : lwI v < 30 := by
    refine Nat.lt_of_not_le (fun z => hz ?_)
    refine Int32.toBitVec_inj.mp (BitVec.eq_of_getLsbD_eq (fun j hj => ?_))
    have e3 : (0 : Int32).toBitVec = 0#32 := rfl
    rw [e3, BitVec.getLsbD_zero]
    by_cases e : j < 20
    · exact h1 j (Nat.lt_of_lt_of_le (by omega) z)
    · exact hb j (by omega)
  have h5 := h2 h4
  refine ⟨Nat.lt_of_not_le (fun z => ?_), h5, h1⟩
  have := hb _ z
  have h5 : v.toBitVec.getLsbD (lwI v) = true := h5
  rw [this] at h5
  cases h5
theorem lob_is (hi : i < 32) (h1 : v.toBitVec.getLsbD i = true) (h2 : ∀ j, j < i → v.toBitVec.getLsbD j = false) : lob v = Int32.ofBitVec (BitVec.twoPow 32 i) := by
  refine Int32.toBitVec_inj.mp ?_
  unfold lob
  rw [Int32.toBitVec_and, Int32.toBitVec_neg]
  show v.toBitVec &&& -v.toBitVec = BitVec.twoPow 32 i
  refine BitVec.eq_of_getLsbD_eq (fun j hj => ?_)
  rw [BitVec.getLsbD_and, BitVec.getLsbD_neg, BitVec.getLsbD_twoPow]
  rcases Nat.lt_trichotomy j i with w | w | w
  · rw [h2 j w]
    have : decide (i = j) = false := decide_eq_false (by omega)
    rw [this]
    simp
  · subst w
    rw [h1]
    have e : decide (∃ l, l < j ∧ v.toBitVec.getLsbD l = true) = false := decide_eq_false (fun ⟨l, l1, l2⟩ => by rw [h2 l l1] at l2; cases l2)
    rw [e]
    simp [hi]
  · have e : decide (∃ l, l < j ∧ v.toBitVec.getLsbD l = true) = true := decide_eq_true ⟨i, w, h1⟩
    rw [e]
    have : decide (i = j) = false := decide_eq_false (by omega)
    rw [this]
    cases v.toBitVec.getLsbD j <;> simp [hj]
theorem pj_ao (ha : cbI a) (hc : cbI c) : pjF a c = aoT 8 a c False := by
  unfold pjF aoT
  rw [if_neg (show ¬ (8 : Int32) = 5 by decide), if_neg (show ¬ (8 : Int32) = 6 by decide), if_pos rfl, if_neg (fun z => z)]
  by_cases z : a = 0 ∨ c = 0
  · rw [if_pos z, if_pos z]
  rw [if_neg z, if_neg z]
  obtain ⟨a1, a2, a3⟩ := lw_is ha (fun e => z (Or.inl e))
  obtain ⟨c1, c2, c3⟩ := lw_is hc (fun e => z (Or.inr e))
  have la := lob_is (by omega) a2 a3
  have lc := lob_is (by omega) c2 c3
  generalize lwI a = i at a1 a2 a3 la
  generalize lwI c = j at c1 c2 c3 lc
  have key : ∀ k, k < 20 → (((a ||| c) >>> (Int32.ofNat k &&& 31)) <<< (Int32.ofNat k &&& 31)) = (a ||| c) &&& -(Int32.ofBitVec (BitVec.twoPow 32 k)) := by
    intro k hk
    refine Int32.toBitVec_inj.mp ?_
    rw [shl_b (by omega), shr_b (by omega) (cb_or ha hc), BitVec.shiftLeft_ushiftRight, Int32.toBitVec_and, Int32.toBitVec_neg]
    show _ = (a ||| c).toBitVec &&& -(BitVec.twoPow 32 k)
    rw [negTP ⟨k, by omega⟩]
  have lt := ltTP ⟨i, a1⟩ ⟨j, c1⟩
  have lt : (Int32.ofBitVec (BitVec.twoPow 32 i) < Int32.ofBitVec (BitVec.twoPow 32 j)) ↔ i < j := lt
  rw [la, lc]
  by_cases e : i < j
  · rw [if_pos (lt.mpr e), if_pos (by omega)]
    exact key j c1
  · rw [if_neg (fun w => e (lt.mp w))]
    by_cases e2 : i ≤ j
    · have : i = j := by omega
      rw [if_pos e2, this]
      exact key j c1
    · rw [if_neg e2]
      exact key i a1
theorem and_m2 (h : a &&& 1 = 0) : a &&& (-2) = a := by
  refine Int32.toBitVec_inj.mp (BitVec.eq_of_getLsbD_eq (fun j hj => ?_))
  rw [Int32.toBitVec_and, BitVec.getLsbD_and]
  have h0 : a.toBitVec.getLsbD 0 = false := by
    have e := congrArg Int32.toBitVec h
    rw [Int32.toBitVec_and] at e
    have e2 : (1 : Int32).toBitVec = 1#32 := rfl
    have e3 : (0 : Int32).toBitVec = 0#32 := rfl
    rw [e2, e3, BitVec.and_one_eq_setWidth_ofBool_getLsbD] at e
    cases hb : a.toBitVec.getLsbD 0 with
    | false => rfl
    | true => rw [hb] at e; exact absurd e (by decide)
  by_cases e : j = 0
  · rw [e, h0]; rfl
  · have m2 : ∀ k : Fin 32, k.val ≠ 0 → ((-2 : Int32).toBitVec).getLsbD k.val = true := by decide +kernel
    rw [m2 ⟨j, hj⟩ e, Bool.and_true]
theorem se_ao {p : Prop} [Decidable p] : seF a c = aoT 5 a c p := by
  unfold seF aoT
  rw [if_pos rfl]
  by_cases e : a &&& 1 = 0
  · rw [if_pos e, if_pos e, and_m2 e, Int32.or_zero]
  · rw [if_neg e, if_neg e]
theorem us2_b : (us2 a).toBitVec = a.toBitVec >>> 2 := rfl
theorem us1_b : (us1 a).toBitVec = a.toBitVec >>> 1 := rfl
theorem tr_ao {p : Prop} [Decidable p] (ha : cbI a) : trF a = aoT 9 c a p := by
  unfold trF aoT
  rw [if_neg (show ¬ (9 : Int32) = 5 by decide), if_neg (show ¬ (9 : Int32) = 6 by decide), if_neg (show ¬ (9 : Int32) = 8 by decide), if_pos rfl]
  have e2 : a >>> ((2 : Int32) &&& 31) = us2 a := Int32.toBitVec_inj.mp (by rw [us2_b]; exact shr_b (k := 2) (by decide) ha)
  have e1 : a >>> ((1 : Int32) &&& 31) = us1 a := Int32.toBitVec_inj.mp (by rw [us1_b]; exact shr_b (k := 1) (by decide) ha)
  rw [e2, e1]
theorem cb_se (ha : cbI a) (hc : cbI c) : cbI (seF a c) := by
  unfold seF
  refine cb_or (cb_and ha) ?_
  split
  · show (0 : Int32).toBitVec.toNat < 1048576; decide
  · exact hc
theorem cb_pj (ha : cbI a) (hc : cbI c) : cbI (pjF a c) := by
  rw [pj_ao ha hc]
  unfold aoT
  rw [if_neg (show ¬ (8 : Int32) = 5 by decide), if_neg (show ¬ (8 : Int32) = 6 by decide), if_pos rfl, if_neg (fun z => z)]
  split
  · show (0 : Int32).toBitVec.toNat < 1048576; decide
  · exact cb_and (cb_or ha hc)
theorem cb_shr (hk : k < 32) (h : cbI v) : cbI (v >>> (Int32.ofNat k &&& 31)) := by
  unfold cbI
  rw [shr_b hk h, BitVec.toNat_ushiftRight]
  exact Nat.lt_of_le_of_lt (Nat.shiftRight_le _ _) h
theorem cb_tr (ha : cbI a) : cbI (trF a) := by
  unfold trF
  exact cb_or (cb_or (cb_and ha) (cb_and (cb_shr (k := 2) (by decide) ha))) (cb_and (cb_shr (k := 1) (by decide) ha))
end
