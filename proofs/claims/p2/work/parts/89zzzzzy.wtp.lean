/-! the weaver's finish: the parts are told their wires -/
/-- only numbers of the cells of S have changed -/
def NuF (S : Nat → Prop) (M M' : Mem) : Prop := (mN M' = mN M ∧ mS M' = mS M ∧ mK M' = mK M ∧ mL M' = mL M) ∧ (mJ M' = mJ M ∧ mR M' = mR M ∧ mAI M' = mAI M ∧ mAJ M' = mAJ M ∧ mAR M' = mAR M) ∧ ∀ c, ¬ S c → mI M' c = mI M c
section
variable {S : Nat → Prop} {M M1 M2 M' : Mem}
theorem NuF.rf : NuF S M M := ⟨⟨rfl, rfl, rfl, rfl⟩, ⟨rfl, rfl, rfl, rfl, rfl⟩, fun _ _ => rfl⟩
theorem NuF.tr (h : NuF S M M1) (k : NuF S M1 M2) : NuF S M M2 := by
  obtain ⟨⟨a1, a2, a3, a4⟩, ⟨a5, a6, a7, a8, a9⟩, a10⟩ := h
  obtain ⟨⟨b1, b2, b3, b4⟩, ⟨b5, b6, b7, b8, b9⟩, b10⟩ := k
  exact ⟨⟨b1.trans a1, b2.trans a2, b3.trans a3, b4.trans a4⟩, ⟨b5.trans a5, b6.trans a6, b7.trans a7, b8.trans a8, b9.trans a9⟩, fun c hc => (b10 c hc).trans (a10 c hc)⟩
theorem NuF.w {c f : Nat} {v : Int32} (hc : S c) : NuF S M (wI M c f v) := ⟨⟨rfl, rfl, rfl, rfl⟩, ⟨rfl, rfl, rfl, rfl, rfl⟩, fun d hd => up2_row (fun e => hd (by rw [e]; exact hc))⟩
theorem NuF.e (h : NuF S M M') : mE M M' := by
  obtain ⟨⟨a1, a2, a3, a4⟩, -⟩ := h
  exact ⟨by rw [a1]; exact Nat.le_refl _, by rw [a2]; exact Nat.le_refl _, fun c _ => by rw [a3, a4]; exact ⟨rfl, rfl⟩⟩
theorem NuF.fre (h : NuF S M M') : fr S M M' := ⟨h.e, fun c _ hc => ⟨h.2.2 c hc, by rw [h.2.1.1], by rw [h.2.1.2.1], by rw [h.2.1.2.2.1], by rw [h.2.1.2.2.2.1], by rw [h.2.1.2.2.2.2]⟩⟩
theorem NuF.fix (h : NuF S M M') (F : Fix M) : Fix M' := F.of_fr (S := fun _ => True) h.e (fun e _ => by rw [h.2.1.2.1]) (by rw [h.2.1.2.2.2.1])
end
/-- what a part is told -/
def TpV (Θ : TrT) (P : Nat → Nat → Int32) (M : Mem) (p x : Nat) : Prop := mI M p 8 = Θ.2.2 12 x ∧ mI M p 9 = P 22 x ∧ mI M p 10 = P 28 (x * 20) ∧ mI M p 11 = P 28 (x * 20 + 1) ∧ mI M p 12 = P 28 (x * 20 + 2)
section
variable {Θ : TrT} {P : Nat → Nat → Int32} {M : Mem} {h p x n0 pb : Nat} {ps : List Nat} {xs : Nat → Nat} {Q : Option Value → Mem → Prop}
theorem W_tell (F : Fix M) (op : ok M p 5) (h12 : mAI M 12 = Θ.2.2 12) (h22 : ∀ j, mAI M 22 j = P 22 j) (h28 : ∀ j, mAI M 28 j = P 28 j) (e1 : mI M p 1 = Int32.ofNat x) (hx : x < 640) (K : ∀ M', NuF (fun c => c = p) M M' → (∀ f, f < 8 → mI M' p f = mI M p f) → TpV Θ P M' p x → Q none M') : E (h + 1) mdX9_tellPart [.ref 21, .ref p] M Q := by
  have vx : ∀ {k : Nat}, k = 640 → vp_in (Int32.ofNat x) k := fun e => by rw [e]; exact vp_of hx (by decide)
  have v20 : ∀ {k n : Nat}, k = 12800 → n < 20 → vp_in (Int32.ofNat (x * 20 + n)) k := fun e hn => by rw [e]; exact vp_of (by omega) (by decide)
  have lx : (Int32.ofNat x).toNatClampNeg = x := lt32 (by omega)
  have e20 : Int32.ofNat x * 20 = Int32.ofNat (x * 20) := by rw [Int32.ofNat_mul]; rfl
  have e21 : Int32.ofNat (x * 20) + 1 = Int32.ofNat (x * 20 + 1) := (Int32.ofNat_add _ _).symm
  have e22 : Int32.ofNat (x * 20) + 2 = Int32.ofNat (x * 20 + 2) := (Int32.ofNat_add _ _).symm
  have l0 : (Int32.ofNat (x * 20)).toNatClampNeg = x * 20 := lt32 (by omega)
  have l1 : (Int32.ofNat (x * 20 + 1)).toNatClampNeg = x * 20 + 1 := lt32 (by omega)
  have l2 : (Int32.ofNat (x * 20 + 2)).toNatClampNeg = x * 20 + 2 := lt32 (by omega)
  refine KX9_tellPart ?_
  unfold DX9_tellPart_0
  rw [e1, lx, e20, e21, e22, l0, l1, l2]
  refine ⟨op, ok21 F, 4, rf21_0 F, ok4 F, 12, rf4_7 F, ok12 F, vx (ln12 F), fun M7 e7 => ?_⟩
  have F7 : Fix M7 := by rw [e7]; exact F.i
  refine ⟨22, rf21_1 F7, ok22 F7, vx (ln22 F7), fun M10 e10 => ?_⟩
  have F10 : Fix M10 := by rw [e10]; exact F7.i
  refine ⟨28, rf21_7 F10, ok28 F10, v20 (n := 0) (ln28 F10) (by decide), fun M13 e13 => ?_⟩
  have F13 : Fix M13 := by rw [e13]; exact F10.i
  refine ⟨28, rf21_7 F13, ok28 F13, v20 (ln28 F13) (by decide), fun M16 e16 => ?_⟩
  have F16 : Fix M16 := by rw [e16]; exact F13.i
  refine ⟨28, rf21_7 F16, ok28 F16, v20 (ln28 F16) (by decide), fun M19 e19 => ?_⟩
  have a7 : mAI M7 = mAI M := by rw [e7]; rfl
  have a10 : mAI M10 = mAI M := by rw [e10]; exact a7
  have a13 : mAI M13 = mAI M := by rw [e13]; exact a10
  have a16 : mAI M16 = mAI M := by rw [e16]; exact a13
  rw [h12] at e7
  rw [a7, h22] at e10
  rw [a10, h28] at e13
  rw [a13, h28] at e16
  rw [a16, h28] at e19
  refine K M19 ?_ (fun f hf => ?_) ⟨?_, ?_, ?_, ?_, ?_⟩
  · rw [e19, e16, e13, e10, e7]
    have ww : ∀ {Mi : Mem} {f : Nat} {v : Int32}, NuF (fun c => c = p) Mi (wI Mi p f v) := NuF.w (S := fun c => c = p) rfl
    exact (((ww.tr ww).tr ww).tr ww).tr ww
  · rw [e19, mI_wI, if_neg (by omega), e16, mI_wI, if_neg (by omega), e13, mI_wI, if_neg (by omega), e10, mI_wI, if_neg (by omega), e7, mI_wI, if_neg (by omega)]
  · rw [e19, mI_wI, if_neg (by omega), e16, mI_wI, if_neg (by omega), e13, mI_wI, if_neg (by omega), e10, mI_wI, if_neg (by omega), e7, mI_wI, if_pos ⟨rfl, rfl⟩]
  · rw [e19, mI_wI, if_neg (by omega), e16, mI_wI, if_neg (by omega), e13, mI_wI, if_neg (by omega), e10, mI_wI, if_pos ⟨rfl, rfl⟩]
  · rw [e19, mI_wI, if_neg (by omega), e16, mI_wI, if_neg (by omega), e13, mI_wI, if_pos ⟨rfl, rfl⟩]
  · rw [e19, mI_wI, if_neg (by omega), e16, mI_wI, if_pos ⟨rfl, rfl⟩]
  · rw [e19, mI_wI, if_pos ⟨rfl, rfl⟩]
theorem W_fin2 (F : Fix M) (o3 : ok M n0 3) (f6 : mR M n0 6 = some (n0 + 7)) (hA : ALp M (n0 + 7) pb 5 ps) (hps : ∀ j, j < ps.length → ok M (ps.getD j 0) 5 ∧ mI M (ps.getD j 0) 1 = Int32.ofNat (xs j) ∧ xs j < 640) (hnd : ∀ i j, i < ps.length → j < ps.length → ps.getD i 0 = ps.getD j 0 → i = j) (h12 : mAI M 12 = Θ.2.2 12) (h22 : ∀ j, mAI M 22 j = P 22 j) (h28 : ∀ j, mAI M 28 j = P 28 j) (hl : ps.length ≤ 1000) (K : ∀ M', NuF (fun c => ∃ j, j < ps.length ∧ c = ps.getD j 0) M M' → (∀ j, j < ps.length → (∀ f, f < 8 → mI M' (ps.getD j 0) f = mI M (ps.getD j 0) f) ∧ TpV Θ P M' (ps.getD j 0) (xs j)) → Q none M') : T (h + 4) mdX9_finish 73 [(0, .ref 21), (1, .ref n0), (2, .int 0)] [] M Q := by
  have main : ∀ (d i : Nat) (M1 : Mem), i + d = ps.length → NuF (fun c => ∃ j, j < ps.length ∧ c = ps.getD j 0) M M1 → (∀ j, j < ps.length → ∀ f, f < 8 → mI M1 (ps.getD j 0) f = mI M (ps.getD j 0) f) → (∀ j, j < i → TpV Θ P M1 (ps.getD j 0) (xs j)) → T (h + 4) mdX9_finish 73 [(0, .ref 21), (1, .ref n0), (2, .int (Int32.ofNat i))] [] M1 Q := by
    intro d i M1 hi hN h8 hT
    have F1 := hN.fix F
    have E1 := hN.e
    have A1 : ALp M1 (n0 + 7) pb 5 ps := hA.fr hN.fre (by
      rintro ⟨j, hj, e⟩
      have := (hps j hj).1.2
      rw [← e, hA.1.2] at this
      exact absurd this (by decide)) (fun hk => by
      rintro ⟨j, hj, e⟩
      have := (hps j hj).1.2
      rw [← e, hk] at this
      exact absurd this (by decide))
    have r6 : mR M1 n0 6 = some (n0 + 7) := by rw [hN.2.1.2.1]; exact f6
    induction d generalizing i M1 with
    | zero =>
      have e : i = ps.length := by omega
      subst e
      refine VX9_finish_73 (h := h + 3) ?_
      unfold DX9_finish_73
      refine ⟨ok_E o3 E1, n0 + 7, r6, A1.1, S_alSize (h := h + 2) A1 (fun _ => ⟨_, rfl, fun _ => K M1 hN (fun j hj => ⟨h8 j hj, hT j hj⟩), fun z => absurd Int32.le_rfl z⟩)⟩
    | succ d ih =>
      have hi' : i < ps.length := by omega
      obtain ⟨oi, e1, x640⟩ := hps i hi'
      have nle : ¬ Int32.ofNat ps.length ≤ Int32.ofNat i := fun z => by
        have := (le32 (by omega) (by omega)).mp z
        omega
      refine VX9_finish_73 (h := h + 3) ?_
      unfold DX9_finish_73
      refine ⟨ok_E o3 E1, n0 + 7, r6, A1.1, S_alSize (h := h + 2) A1 (fun _ => ⟨_, rfl, fun z => absurd z nle, fun _ => ⟨n0 + 7, r6, A1.1, S_get (h := h) A1 hi' (fun _ => ⟨_, rfl, ok_E oi E1, ok21 F1, ?_⟩)⟩⟩)⟩
      refine W_tell (h := h + 2) (x := xs i) (Θ := Θ) (P := P) F1 (ok_E oi E1) (by rw [hN.2.1.2.2.1]; exact h12) (fun j => by rw [hN.2.1.2.2.1]; exact h22 j) (fun j => by rw [hN.2.1.2.2.1]; exact h28 j) (by rw [h8 i hi' 1 (by decide)]; exact e1) x640 (fun M2 N2 k2 t2 _ => ⟨rfl, ?_⟩)
      rw [succ32]
      have N12 : NuF (fun c => ∃ j, j < ps.length ∧ c = ps.getD j 0) M1 M2 := ⟨N2.1, N2.2.1, fun c hc => N2.2.2 c (fun e => hc ⟨i, hi', e⟩)⟩
      have ne : ∀ j, j < ps.length → j ≠ i → ps.getD j 0 ≠ ps.getD i 0 := fun j hj y e => y (hnd j i hj hi' e)
      have hN2 := hN.tr N12
      refine ih (i + 1) M2 (by omega) hN2 (fun j hj f hf => ?_) (fun j hj => ?_) (hN2.fix F) hN2.e ?_ (by rw [hN2.2.1.2.1]; exact f6)
      · by_cases y : j = i
        · rw [y, k2 f hf]; exact h8 i hi' f hf
        · rw [N2.2.2 _ (ne j hj y)]; exact h8 j hj f hf
      · by_cases y : j = i
        · rw [y]; exact t2
        · have t := hT j (by omega)
          unfold TpV at t ⊢
          rw [N2.2.2 _ (ne j (by omega) y)]
          exact t
      · exact hA.fr hN2.fre (by
          rintro ⟨j, hj, e⟩
          have := (hps j hj).1.2
          rw [← e, hA.1.2] at this
          exact absurd this (by decide)) (fun hk => by
          rintro ⟨j, hj, e⟩
          have := (hps j hj).1.2
          rw [← e, hk] at this
          exact absurd this (by decide))
  exact main ps.length 0 M (by omega) NuF.rf (fun _ _ _ _ => rfl) (fun j hj => absurd hj (Nat.not_lt_zero _))
end
