/-! the start: both constructors from nothing; what is read behind one's own write -/
def mH0 : Mem := nwO mG0 13 126
set_option maxRecDepth 8000 in
theorem start_O : ∀ e ∈ tO, e.1 < mN mH0 ∧ mK mH0 e.1 = e.2 := by decide +kernel
set_option maxRecDepth 8000 in
theorem start_A : ∀ e ∈ tA, (e.1 < mN mH0 ∧ mK mH0 e.1 = e.2.1) ∧ mL mH0 e.1 = e.2.2 := by decide +kernel
set_option maxRecDepth 8000 in
theorem start_R : ∀ e ∈ tR, e.1 < 29 ∧ mR mH0 e.1 e.2.1 = some e.2.2 := by decide +kernel
def Start (M : Mem) : Prop := Fix M ∧ mN M = 132 ∧ mS M ≤ 150000 ∧ (∀ a, a < 29 → sameRow mH0 M a) ∧ mI M 29 = (fun j => if j = 124 then (-1 : Int32) else if j = 123 then (-1 : Int32) else 0) ∧ mJ M 29 = (fun _ => 0) ∧ (∀ a, 30 ≤ a → a < 132 → mAI M a = (fun _ => 0) ∧ mAJ M a = (fun _ => 0))
theorem tB_at {e : Nat × Nat × Nat} (h : e ∈ tB) : ∃ (j : Nat) (q : Nat × Nat × Nat), lModel[j]? = some q ∧ e = (30 + j, q.2) := by
  rw [tB_eq] at h
  obtain ⟨j, hj, rfl⟩ := List.mem_map.mp h
  have hj : j < lModel.length := List.mem_range.mp hj
  exact ⟨j, lModel[j], List.getElem?_eq_getElem hj, by rw [List.getD_eq_getElem?_getD, List.getElem?_eq_getElem hj]; rfl⟩
theorem tS_at {e : Nat × Nat × Nat} (h : e ∈ tS) : ∃ (j : Nat) (q : Nat × Nat × Nat), lModel[j]? = some q ∧ e = (29, q.1, 30 + j) := by
  rw [tS_eq] at h
  obtain ⟨j, hj, rfl⟩ := List.mem_map.mp h
  have hj : j < lModel.length := List.mem_range.mp hj
  exact ⟨j, lModel[j], List.getElem?_eq_getElem hj, by rw [List.getD_eq_getElem?_getD, List.getElem?_eq_getElem hj]; rfl⟩
theorem n_H0 : mN mH0 = 30 := rfl
theorem s_H0 : mS mH0 ≤ 50000 := by decide +kernel
theorem n_G0 : mN mG0 = 29 := rfl
set_option maxRecDepth 20000 in
theorem k_H0 : mAJ mH0 19 = keysF := rfl
theorem o_H0 : ok mH0 29 13 := ⟨by decide, rfl⟩
theorem start_of {M : Mem} (h1 : rws M 29 30 lModel) (h2 : mN M = 132) (h3 : mS M = mS mH0 + 96943) (h4 : fr (fun c => c = 29) mH0 M) (h5 : mI M 29 = (fun j => if j = 124 then (-1 : Int32) else ((fun j => if j = 123 then (-1 : Int32) else (mI mH0 29) j)) j)) (h6 : mJ M 29 = mJ mH0 29) : Start M := by
  have hs : ∀ a, a < 29 → sameRow mH0 M a := fun a ha => h4.2 a (by rw [n_H0]; omega) (by intro z; have z : a = 29 := z; omega)
  refine ⟨⟨by omega, fun e he => ok_E (start_O e he) h4.1, fun e he => ?_, fun e he => ?_, (hs 19 (by decide)).2.2.2.2.1.trans k_H0⟩, h2, by have := s_H0; omega, hs, h5, h6, fun a h30 h132 => ?_⟩
  · rcases List.mem_append.mp he with he | he
    · have h := start_A e he
      exact ⟨ok_E h.1 h4.1, ((h4.1.2.2 e.1 h.1.1).2).trans h.2⟩
    · obtain ⟨j, q, hq, rfl⟩ := tB_at he
      obtain ⟨-, a2, a3, -⟩ := h1 j q hq
      exact ⟨a2, a3⟩
  · rcases List.mem_append.mp he with he | he
    · have h := start_R e he
      rw [(hs e.1 h.1).2.2.1]
      exact h.2
    · obtain ⟨j, q, hq, rfl⟩ := tS_at he
      exact (h1 j q hq).1
  · obtain ⟨j, rfl⟩ : ∃ j, a = 30 + j := ⟨a - 30, by omega⟩
    have hj : j < lModel.length := by rw [lModel_len]; omega
    obtain ⟨-, -, -, a4, a5, -⟩ := h1 j lModel[j] (List.getElem?_eq_getElem hj)
    exact ⟨a4, a5⟩
theorem law_start {L : Nat} {xs : Nat → Int32} {h : Nat} {Q : Option Value → Mem → Prop} (H : ∀ M, Start M → T (h + 9) (mdL L xs) 18 [(0, .ref (mBig + 0)), (1, .ref 0), (2, .ref 29), (3, .int 0)] [] M Q) : T (h + 9) (mdL L xs) 0 [(0, .ref (mBig + 0))] [] mem0 Q := by
  refine VL_law_0 ?_
  unfold DL_law_0
  intro q2 M1 hq2 hM1
  have hq2 : q2 = 0 := hq2
  subst hq2 hM1
  refine S_mill0.imp (fun r M3 hE hp hE2 => ⟨hp.1, fun q5 M4 hq5 hM4 => ?_⟩)
  obtain ⟨-, hp⟩ := hp
  subst hp
  have hq5 : q5 = 29 := hq5.trans n_G0
  subst hq5
  have hM4 : M4 = mH0 := hM4
  rw [hM4]
  refine (S_modelInit (M := mH0) (x0 := 29) o_H0).imp (fun r M6 hE hp hE2 => ⟨hp.1, ?_⟩)
  obtain ⟨-, p1, p2, p3, p4, p5, p6⟩ := hp
  exact H _ (start_of p1 p2 p3 p4 p5 p6)
theorem up2_up2 {α : Type} (f : Nat → Nat → α) (a k : Nat) (v w : α) : up2 (up2 f a k v) a k w = up2 f a k w := by
  funext b j; unfold up2; split <;> rfl
theorem up2_self {α : Type} (f : Nat → Nat → α) (a k : Nat) : up2 f a k (f a k) = f := by
  funext b j; unfold up2; split
  · rename_i h; rw [h.1, h.2]
  · rfl
theorem wI_wI (M : Mem) (a k : Nat) (v w : Int32) : wI (wI M a k v) a k w = wI M a k w := by
  unfold wI; simp only [mI, up2_up2]; rfl
theorem wI_self (M : Mem) (a k : Nat) : wI M a k (mI M a k) = M := by
  unfold wI; rw [up2_self]; rfl
theorem wI_same {M : Mem} {a k : Nat} {v : Int32} (h : mI M a k = v) : wI M a k v = M := by rw [← h, wI_self]
theorem mI_own (M : Mem) (a k : Nat) (v : Int32) : mI (wI M a k v) a k = v := up2_eq
