/-! the class reads a text: the end of it -/
section
variable {b : Nat → Int32} {n s n0 m : Nat} {τ : Td} {M Mz M0 M1 M2 M' : Mem} {i o h : Nat} {Q : Option Value → Mem → Prop} {γ : ClT} {cn : Nat → Nat} {ps : List Nat} {tl : List Int64} {f v : Int32}
theorem CQ.lti {q : Nat} (hC : CQ n0 τ M0 M γ cn ps tl) (F : Fix M) (e : M' = wI M n0 q v) : ∃ pb, LtI n0 pb ps γ.1 M' := by
  have N := hC.nz
  have L := hC.len
  obtain ⟨lc, rc, cc, pb, ib, h⟩ := id hC
  have kf : fr (fun c => c = n0) M M' := by rw [e]; exact fr_wI (S := fun c => c = n0) rfl
  have eR : mR M' = mR M := by rw [e]; rfl
  refine ⟨pb, by rw [e]; exact F.i, by rw [eR]; exact N.2.2.2.2.2.1, ok_E N.2.2.1 kf.1, by rw [eR]; exact N.2.2.2.2.2.2.2.1, alp_fr3 h.2.2.2.1.1 kf (fun z => by omega) (fun o24 z => ?_), by omega, fun j hj => ?_⟩
  · have := o24.2
    rw [show pb = n0 from z, N.2.2.1.2] at this
    exact absurd this (by decide)
  · obtain ⟨a1, a2, a3⟩ := hC.part hj
    have ne : ps.getD j 0 ≠ n0 := by omega
    rw [(kf.2 _ a1.1 ne).1]
    exact ⟨ok_E a1 kf.1, a3 2 (by decide), a3 0 (by decide)⟩
/-- the end of the reading, behind a fault -/
theorem R81x {pb : Nat} {A : Nat → Nat → Int32} (hn : 132 ≤ n0) (hL : LtI n0 pb ps A M) (hf : mI M 15 12 ≠ 0) (H : ∀ M', M' = wI M n0 13 (mI M 4 10) → Q (some .null) M') : DX4_read_81 (h + 2) 14 M Q := by
  have F := hL.1
  unfold DX4_read_81 DX4_read_117
  refine ⟨ok14 F, S_lateX hL hf (fun _ => ⟨rfl, n0, hL.2.1, 4, rf14_1 F, ok4 F, hL.2.2.1, fun M7 e7 => ?_⟩)⟩
  have F7 : Fix M7 := by rw [e7]; exact F.i
  have f7 : mI M7 15 12 = mI M 15 12 := by rw [e7, mI_wI, if_neg (by omega)]
  exact ⟨15, rf14_0 F7, ok15 F7, fun _ => H M7 e7, fun z => absurd (f7.symm.trans z) hf⟩
/-- .. and without one so far -/
theorem R81 {pb : Nat} {A : Nat → Nat → Int32} (hn : 132 ≤ n0) (hL : LtI n0 pb ps A M) (hf : mI M 15 12 = 0) (H0 : (∀ j, j < ps.length → A j 2 = 0) → ∀ M', M' = wI M n0 13 (mI M 4 10) → Q (some (.ref n0)) M') (H1 : ∀ j, j < ps.length → A j 2 ≠ 0 → (∀ q, q < j → A q 2 = 0) → ∀ M1 M', Fix M1 → mI M1 15 12 = A j 2 → mI M1 15 13 = A j 0 → TFr M M1 → M' = wI M1 n0 13 (mI M1 4 10) → Q (some .null) M') : DX4_read_81 (h + 4) 14 M Q := by
  have F := hL.1
  unfold DX4_read_81 DX4_read_117
  refine ⟨ok14 F, S_late hn hL hf (fun hz _ => ⟨rfl, n0, hL.2.1, 4, rf14_1 F, ok4 F, hL.2.2.1, fun M7 e7 => ?_⟩) (fun j hj h2 hz M1 F1 v12 v13 k1 _ => ⟨rfl, ?_⟩)⟩
  · have F7 : Fix M7 := by rw [e7]; exact F.i
    have f7 : mI M7 15 12 = mI M 15 12 := by rw [e7, mI_wI, if_neg (by omega)]
    have r7 : mR M7 14 7 = some n0 := by rw [e7]; exact hL.2.1
    exact ⟨15, rf14_0 F7, ok15 F7, fun z => absurd (f7.trans hf) z, fun _ => ⟨n0, r7, H0 hz M7 e7⟩⟩
  · have L1 := hL.tok k1 hn
    refine ⟨n0, L1.2.1, 4, rf14_1 F1, ok4 F1, L1.2.2.1, fun M7 e7 => ?_⟩
    have F7 : Fix M7 := by rw [e7]; exact F1.i
    have f7 : mI M7 15 12 = mI M1 15 12 := by rw [e7, mI_wI, if_neg (by omega)]
    exact ⟨15, rf14_0 F7, ok15 F7, fun _ => H1 j hj h2 hz M1 M7 F1 v12 v13 k1 e7, fun z => absurd ((v12.symm.trans f7.symm).trans z) h2⟩
end
