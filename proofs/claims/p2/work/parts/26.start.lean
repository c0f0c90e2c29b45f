/-! the start: both constructors from nothing; what is read behind one's own write -/
def mH0 : Mem := nwO mG0 13 126
set_option maxRecDepth 8000 in
theorem start_O : ∀ e ∈ tO, e.1 < mN mH0 ∧ mK mH0 e.1 = e.2 := by decide +kernel
set_option maxRecDepth 8000 in
theorem start_A : ∀ e ∈ tA, (e.1 < mN mH0 ∧ mK mH0 e.1 = e.2.1) ∧ mL mH0 e.1 = e.2.2 := by decide +kernel
set_option maxRecDepth 8000 in
theorem start_R : ∀ e ∈ tR, e.1 < 29 ∧ mR mH0 e.1 e.2.1 = some e.2.2 := by decide +kernel
def Start (M : Mem) : Prop := Fix M ∧ mN M = 132 ∧ mS M ≤ 150000 ∧ (∀ a, a < 29 → sameRow mH0 M a) ∧ mI M 29 = (fun j => if j = 124 then (-1 : Int32) else if j = 123 then (-1 : Int32) else 0) ∧ mJ M 29 = (fun _ => 0) ∧ (∀ a, 30 ≤ a → a < 132 → mAI M a = (fun _ => 0) ∧ mAJ M a = (fun _ => 0))
theorem tB_at {e : Nat × Nat × Nat} (h : e ∈ tB) : ∃ (j : Nat) (q : Nat × Nat × Nat), lModel[j]? = some q ∧ e = (30 + j, q.2) := by
  rw [tB_eq] at h
  obtain ⟨j, hj, rfl⟩ := List.mem_map.mp h
  have hj : j < lModel.length := List.mem_range.mp hj
  exact ⟨j, lModel[j], List.getElem?_eq_getElem hj, by rw [List.getD_eq_getElem?_getD, List.getElem?_eq_getElem hj]; rfl⟩
theorem tS_at {e : Nat × Nat × Nat} (h : e ∈ tS) : ∃ (j : Nat) (q : Nat × Nat × Nat), lModel[j]? = some q ∧ e = (29, q.1, 30 + j) := by
  rw [tS_eq] at h
  obtain ⟨j, hj, rfl⟩ := List.mem_map.mp h
  have hj : j < lModel.length := List.mem_range.mp hj
  exact ⟨j, lModel[j], List.getElem?_eq_getElem hj, by rw [List.getD_eq_getElem?_getD, List.getElem?_eq_getElem hj]; rfl⟩
theorem n_H0 : mN mH0 = 30 := rfl
theorem s_H0 : mS mH0 ≤ 50000 := by decide +kernel
theorem n_G0 : mN mG0 = 29 := rfl
set_option maxRecDepth 20000 in
theorem k_H0 : mAJ mH0 19 = keysF := rfl
theorem o_H0 : ok mH0 29 13 := ⟨by decide, rfl⟩
theorem start_of {M : Mem} (h1 : rws M 29 30 lModel) (h2 : mN M = 132) (h3 : mS M = mS mH0 + 96943) (h4 : fr (fun c => c = 29) mH0 M) (h5 : mI M 29 = (fun j => if j = 124 then (-1 : Int32) else ((fun j => if j = 123 then (-1 : Int32) else (mI mH0 29) j)) j)) (h6 : mJ M 29 = mJ mH0 29) : Start M := by
  have hs : ∀ a, a < 29 → sameRow mH0 M a := fun a ha => h4.2 a (by rw [n_H0]; omega) (by intro z; have z : a = 29 := z; omega)
  refine ⟨⟨by omega, fun e he => ok_E (start_O e he) h4.1, fun e he => ?_, fun e he => ?_, (hs 19 (by decide)).2.2.2.2.1.trans k_H0⟩, h2, by have := s_H0; omega, hs, h5, h6, fun a h30 h132 => ?_⟩
  · rcases List.mem_append.mp he with he | he
    · have h := start_A e he
      exact ⟨ok_E h.1 h4.1, ((h4.1.2.2 e.1 h.1.1).2).trans h.2⟩
    · obtain ⟨j, q, hq, rfl⟩ := tB_at he
      obtain ⟨-, a2, a3, -⟩ := h1 j q hq
      exact ⟨a2, a3⟩
  · rcases List.mem_append.mp he with he | he
    · have h := start_R e he
      rw [(hs e.1 h.1).2.2.1]
      exact h.2
    · obtain ⟨j, q, hq, rfl⟩ := tS_at he
      exact (h1 j q hq).1
  · obtain ⟨j, rfl⟩ : ∃ j, a = 30 + j := ⟨a - 30, by omega⟩
    have hj : j < lModel.length := by rw [lModel_len]; omega
    obtain ⟨-, -, -, a4, a5, -⟩ := h1 j lModel[j] (List.getElem?_eq_getElem hj)
    exact ⟨a4, a5⟩
