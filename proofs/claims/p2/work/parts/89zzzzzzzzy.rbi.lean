/-! the inputs of a beat, as the reference's memory says them -/
theorem and1 (v : Int32) : v &&& 1 = 0 ∨ v &&& 1 = 1 := by
  have e : v &&& 1 = Int32.ofBitVec (v.toBitVec &&& 1#32) := rfl
  rw [e]
  have h : v.toBitVec &&& 1#32 = 0#32 ∨ v.toBitVec &&& 1#32 = 1#32 := by
    generalize v.toBitVec = b
    have h2 : (b &&& 1#32).toNat = b.toNat % 2 := by rw [BitVec.toNat_and]; exact Nat.and_one_is_mod _
    by_cases z : b.toNat % 2 = 0
    · exact Or.inl (BitVec.eq_of_toNat_eq (by rw [h2, z]; rfl))
    · exact Or.inr (BitVec.eq_of_toNat_eq (by rw [h2, show b.toNat % 2 = 1 by omega]; rfl))
  rcases h with h | h <;> rw [h]
  · exact Or.inl rfl
  · exact Or.inr rfl
def b01 (x : Int32) (k : Nat) : Nat := if (x >>> (Int32.ofNat k &&& 31)) &&& 1 = 0 then 0 else 1
theorem b01_e {x : Int32} {k : Nat} : (x >>> (Int32.ofNat k &&& 31)) &&& 1 = Int32.ofNat (b01 x k) ∧ b01 x k ≤ 1 := by
  unfold b01
  rcases and1 (x >>> (Int32.ofNat k &&& 31)) with h | h
  · rw [if_pos h, h]; exact ⟨rfl, by decide⟩
  · rw [if_neg (by rw [h]; decide), h]; exact ⟨rfl, by decide⟩
def gvI (x : Int32) (il : List Nat) (s : Nat) : Nat := if s = il.getD 0 0 then b01 x 0 else if s = il.getD 1 0 then b01 x 1 else if s = il.getD 2 0 then b01 x 2 else b01 x 3
/-- the inputs of a beat -/
def inM (R : RMo) (il : List Nat) (M : Mem) : RIn := (mI M 29 85, fun s => b01 (mI M 29 86) s, fun p => b01 (mI M 29 88) (ifC R (p - 40 * moM R)), if mI M 29 89 = 0 then 0 else 1, gvI (mI M 29 87) il)
section
variable {R : RMo} {il : List Nat} {M : Mem}
theorem inM_b (F : Fix M) (em : mI M 29 84 = Int32.ofNat (moM R)) : RbI R (inM R il M) M ∧ ∀ s, iBf (inM R il M) s ≤ 1 := by
  refine ⟨⟨F, em, rfl, fun s _ => b01_e, ?_, fun j _ => ?_⟩, fun s => b01_e.2⟩
  · have e : iFi (inM R il M) = if mI M 29 89 = 0 then 0 else 1 := rfl
    rw [e]
    by_cases z : mI M 29 89 = 0
    · rw [if_pos z]; exact ⟨fun _ => by decide, fun _ => z⟩
    · rw [if_neg z]; exact ⟨fun y => absurd y z, fun y => absurd rfl y⟩
  · have e : iTr (inM R il M) (40 * moM R + j) = b01 (mI M 29 88) (ifC R (40 * moM R + j - 40 * moM R)) := rfl
    rw [e, show 40 * moM R + j - 40 * moM R = j by omega]
    exact b01_e
theorem gvI_e {x : Int32} {j : Nat} (h4 : il.length ≤ 4) (hd : ∀ j k, j < il.length → k < il.length → il.getD j 0 = il.getD k 0 → j = k) (hj : j < il.length) : gvI x il (il.getD j 0) = b01 x j := by
  have ne : ∀ k, k < j → ¬ il.getD j 0 = il.getD k 0 := fun k hk e => by
    have := hd j k hj (by omega) e
    omega
  unfold gvI
  have : j = 0 ∨ j = 1 ∨ j = 2 ∨ j = 3 := by omega
  rcases this with e | e | e | e
  · rw [e, if_pos rfl]
  · rw [e] at ne ⊢
    rw [if_neg (ne 0 (by decide)), if_pos rfl]
  · rw [e] at ne ⊢
    rw [if_neg (ne 0 (by decide)), if_neg (ne 1 (by decide)), if_pos rfl]
  · rw [e] at ne ⊢
    rw [if_neg (ne 0 (by decide)), if_neg (ne 1 (by decide)), if_neg (ne 2 (by decide))]
theorem inM_l (h1 : mAI M 35 (moM R) = Int32.ofNat il.length ∧ il.length ≤ 4) (h2 : ∀ j, j < il.length → mAI M 41 (4 * moM R + j) = Int32.ofNat (il.getD j 0)) (h3 : ∀ j k, j < il.length → k < il.length → il.getD j 0 = il.getD k 0 → j = k) (h4 : ∀ j, j < il.length → il.getD j 0 < moQ R ∧ moT R (il.getD j 0) = 0) (h5 : ∀ s, s < moQ R → moT R s = 0 → ∃ j, j < il.length ∧ il.getD j 0 = s) : InL R (inM R il M) il M := by
  refine ⟨h1, h2, h3, h4, h5, fun j hj => ?_⟩
  have e : iGv (inM R il M) (il.getD j 0) = gvI (mI M 29 87) il (il.getD j 0) := rfl
  rw [e, gvI_e h1.2 h3 hj]
  exact b01_e
end
