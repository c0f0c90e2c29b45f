/-! the class reads what is told: all of it -/
section
variable {b : Nat → Int32} {n s n0 : Nat} {τ : Td} {M M' : Mem} {i o lc rc : Nat} {h : Nat} {Q : Option Value → Mem → Prop}
theorem CT.lim (hC : CT n0 τ M lc rc) : 132 ≤ n0 ∧ n0 + 25 ≤ mN M ∧ mR M 14 7 = some n0 ∧ (lc = n0 + 9 ∨ n0 + 25 ≤ lc) ∧ (rc = n0 + 10 ∨ n0 + 25 ≤ rc) ∧ ok M n0 3 ∧ τ.1.length ≤ 16 ∧ τ.2.2.1.length = τ.1.length := by
  obtain ⟨hE, hP, p3, p4, p5, p6, hs, p7, hb, p8, p9, p10⟩ := hC.1
  exact ⟨p9, p10, p8, p3, p4, hE.1, hE.2.1.1, hE.2.1.2.2.1⟩
/-- one number of 'mix', or one of 'beginning', is written -/
theorem CT.mix {v : Int32} {mx0 : List Int32} {x : Int32} (hC : CT n0 τ M lc rc) (hm : τ.2.2.1 = mx0 ++ [x]) (e : M' = wAI M (n0 + 3) mx0.length v) : CT n0 (τ.1, τ.2.1, mx0 ++ [v], τ.2.2.2.1, τ.2.2.2.2) M' lc rc ∧ TdF n0 M M' lc rc lc rc τ.1.length τ.1.length ∧ fr (fun c => 132 ≤ c) M M' := by
  have lm := hC.lim
  obtain ⟨⟨hE, hP, p3, p4, p5, p6, ⟨s1, s2, s3⟩, p7, ⟨b1, b2, b3⟩, p8, p9, p10⟩, ⟨i1, i2, i3, i4, i5, i6⟩, hmk, ⟨v1, v2, v3, v4, v5⟩, hmx⟩ := hC
  obtain ⟨h1, h2, h3, h4, h5, ⟨a1, a2, a3⟩, h6, ⟨q1, q2, q3⟩, h7, ⟨c1, c2, c3⟩, h8, ⟨d1, d2, d3⟩, h9⟩ := hE
  have hlen : τ.1.length = mx0.length + 1 := by rw [← h2.2.2.1, hm, List.length_append]; rfl
  have row : ∀ a, a ≠ n0 + 3 → sameRow M M' a := fun a z => by rw [e]; exact ⟨rfl, rfl, rfl, up2_row z, rfl, rfl⟩
  have EM : mE M M' := by rw [e]; exact mE_wAI
  have oM : ∀ a c, ok M a c → ok M' a c := fun a c ho => ok_E ho EM
  have rA : ∀ a, a ≠ n0 + 3 → mAI M' a = mAI M a := fun a z => (row a z).2.2.2.1
  refine ⟨⟨⟨⟨oM _ _ h1, ⟨h2.1, h2.2.1, by show (mx0 ++ [v]).length = _; rw [List.length_append, hlen]; rfl, h2.2.2.2⟩, by rw [e]; exact h3, by rw [e]; exact h4, by rw [e]; exact h5, ⟨oM _ _ a1, by rw [e]; exact a2, by rw [e]; exact a3⟩, by rw [e]; exact h6, ⟨oM _ _ q1, by rw [e]; exact q2, by rw [rA _ (by omega)]; exact q3⟩, by rw [e]; exact h7, ⟨oM _ _ c1, by rw [e]; exact c2, fun k hk => ?_⟩, by rw [e]; exact h8, ⟨oM _ _ d1, by rw [e]; exact d2, by rw [e]; exact d3⟩, by rw [e]; exact h9⟩, hP.fr EM (row _ (by omega)) (row _ (by omega)) (row _ (by omega)), p3, p4, by rw [e]; exact p5, by rw [e]; exact p6, ⟨oM _ _ s1, by rw [e]; exact s2, by rw [rA _ (by omega)]; exact s3⟩, by rw [e]; exact p7, ⟨oM _ _ b1, by rw [e]; exact b2, by rw [rA _ (by omega)]; exact b3⟩, by rw [e]; exact p8, p9, by rw [e]; exact p10⟩, ⟨by rw [e]; exact i1, i2, by rw [e]; exact i3, oM _ _ i4, by rw [e]; exact i5, by rw [rA _ (by omega)]; exact i6⟩, by rw [e]; exact hmk, ⟨by rw [e]; exact v1, oM _ _ v2, by rw [e]; exact v3, v4, by rw [rA _ (by omega)]; exact v5⟩, fun j z1 z2 => ?_⟩, ?_, ?_⟩
  · show mAI M' (n0 + 3) k = (mx0 ++ [v]).getD k 0
    have hk : k < τ.1.length := hk
    rw [getD_app (by omega), e, mAI_wAI]
    by_cases z : k = mx0.length
    · rw [if_pos ⟨rfl, z⟩, if_pos z]
    · rw [if_neg (fun y => z y.2), if_neg z]
      have := c3 k hk
      rw [hm, getD_app (by omega), if_neg z] at this
      exact this
  · have z1 : τ.1.length ≤ j := z1
    rw [e, mAI_wAI, if_neg (by rintro ⟨-, y⟩; omega)]; exact hmx j z1 z2
  · exact ⟨⟨EM, fun a _ hn => row a (fun z => hn (Or.inr (Or.inl (by omega))))⟩, by rw [e]; rfl, by rw [e]; rfl, fun f _ => by rw [e]; rfl, fun f _ => by rw [e]; rfl, fun f _ _ => by rw [e]; rfl, by rw [e]; exact Nat.le_refl _, by rw [e]; rfl, Or.inl rfl, Or.inl rfl, Nat.le_refl _⟩
  · exact ⟨EM, fun a _ hn => row a (by omega)⟩
theorem CT.beg {v x : Int64} {vB0 : List Int64} (hC : CT n0 τ M lc rc) (hm : τ.2.2.2.2 = vB0 ++ [x]) (e : M' = wAI M (n0 + 6) vB0.length v.toInt32) : CT n0 (τ.1, τ.2.1, τ.2.2.1, τ.2.2.2.1, vB0 ++ [v]) M' lc rc ∧ TdF n0 M M' lc rc lc rc τ.1.length τ.1.length ∧ fr (fun c => 132 ≤ c) M M' := by
  have lm := hC.lim
  obtain ⟨⟨hE, hP, p3, p4, p5, p6, ⟨s1, s2, s3⟩, p7, ⟨b1, b2, b3⟩, p8, p9, p10⟩, ⟨i1, i2, i3, i4, i5, i6⟩, hmk, ⟨v1, v2, v3, v4, v5⟩, hmx⟩ := hC
  obtain ⟨h1, h2, h3, h4, h5, ⟨a1, a2, a3⟩, h6, ⟨q1, q2, q3⟩, h7, ⟨c1, c2, c3⟩, h8, ⟨d1, d2, d3⟩, h9⟩ := hE
  have hlen : τ.2.2.2.1.length = vB0.length + 1 := by rw [← v4, hm, List.length_append]; rfl
  have row : ∀ a, a ≠ n0 + 6 → sameRow M M' a := fun a z => by rw [e]; exact ⟨rfl, rfl, rfl, up2_row z, rfl, rfl⟩
  have EM : mE M M' := by rw [e]; exact mE_wAI
  have oM : ∀ a c, ok M a c → ok M' a c := fun a c ho => ok_E ho EM
  have rA : ∀ a, a ≠ n0 + 6 → mAI M' a = mAI M a := fun a z => (row a z).2.2.2.1
  refine ⟨⟨⟨⟨oM _ _ h1, h2, by rw [e]; exact h3, by rw [e]; exact h4, by rw [e]; exact h5, ⟨oM _ _ a1, by rw [e]; exact a2, by rw [e]; exact a3⟩, by rw [e]; exact h6, ⟨oM _ _ q1, by rw [e]; exact q2, by rw [rA _ (by omega)]; exact q3⟩, by rw [e]; exact h7, ⟨oM _ _ c1, by rw [e]; exact c2, by rw [rA _ (by omega)]; exact c3⟩, by rw [e]; exact h8, ⟨oM _ _ d1, by rw [e]; exact d2, by rw [e]; exact d3⟩, by rw [e]; exact h9⟩, hP.fr EM (row _ (by omega)) (row _ (by omega)) (row _ (by omega)), p3, p4, by rw [e]; exact p5, by rw [e]; exact p6, ⟨oM _ _ s1, by rw [e]; exact s2, by rw [rA _ (by omega)]; exact s3⟩, by rw [e]; exact p7, ⟨oM _ _ b1, by rw [e]; exact b2, by rw [rA _ (by omega)]; exact b3⟩, by rw [e]; exact p8, p9, by rw [e]; exact p10⟩, ⟨by rw [e]; exact i1, i2, by rw [e]; exact i3, oM _ _ i4, by rw [e]; exact i5, by rw [rA _ (by omega)]; exact i6⟩, by rw [e]; exact hmk, ⟨by rw [e]; exact v1, oM _ _ v2, by rw [e]; exact v3, by show (vB0 ++ [v]).length = _; rw [List.length_append, hlen]; rfl, fun k hk => ?_⟩, by rw [rA _ (by omega)]; exact hmx⟩, ?_, ?_⟩
  · show mAI M' (n0 + 6) k = ((vB0 ++ [v]).getD k 0).toInt32
    have hk : k < τ.2.2.2.1.length := hk
    rw [getD_a64 (by omega), e, mAI_wAI]
    by_cases z : k = vB0.length
    · rw [if_pos ⟨rfl, z⟩, if_pos z]
    · rw [if_neg (fun y => z y.2), if_neg z]
      have := v5 k hk
      rw [hm, getD_a64 (by omega), if_neg z] at this
      exact this
  · exact ⟨⟨EM, fun a _ hn => row a (fun z => hn (Or.inr (Or.inl (by omega))))⟩, by rw [e]; rfl, by rw [e]; rfl, fun f _ => by rw [e]; rfl, fun f _ => by rw [e]; rfl, fun f _ _ => by rw [e]; rfl, by rw [e]; exact Nat.le_refl _, by rw [e]; rfl, Or.inl rfl, Or.inl rfl, Nat.le_refl _⟩
  · exact ⟨EM, fun a _ hn => row a (by omega)⟩
theorem C_addVar {c : Int64} (hC : CT n0 τ M lc rc) (hf : fuT 36 τ = false) (H : ∀ M' x, CT n0 (τ.1, τ.2.1, τ.2.2.1, τ.2.2.2.1 ++ [c], τ.2.2.2.2 ++ [x]) M' lc rc → TdF n0 M M' lc rc lc rc τ.1.length τ.1.length → fr (fun c => 132 ≤ c) M M' → Q none M') : E (h + 2) mdX1_addVariable [.ref n0, .long c] M Q := by
  have hCT := hC
  have lm := hC.lim
  obtain ⟨⟨hE, hP, p3, p4, p5, p6, ⟨s1, s2, s3⟩, p7, ⟨b1, b2, b3⟩, p8, p9, p10⟩, ⟨i1, i2, i3, i4, i5, i6⟩, hmk, ⟨v1, v2, v3, v4, v5⟩, hmx⟩ := hC
  obtain ⟨h1, h2, h3, h4, h5, ⟨a1, a2, a3⟩, h6, ⟨q1, q2, q3⟩, h7, ⟨c1, c2, c3⟩, h8, ⟨d1, d2, d3⟩, h9⟩ := hE
  have hV : τ.2.2.2.1.length < 6 := by
    unfold fuT at hf
    rw [if_pos rfl] at hf
    simp at hf
    omega
  refine KX1_addVariable ?_
  unfold DX1_addVariable_0
  refine ⟨h1, S_isFull hCT ?_⟩
  rw [hf, if_neg (by decide)]
  refine fun _ => ⟨_, rfl, fun _ => ?_, fun z => absurd rfl z⟩
  rw [h4, lt32 (by omega)]
  refine ⟨n0 + 5, h8, d1, by rw [d2]; exact vp_of hV (by decide), fun A x1 M' eM => ?_⟩
  have e12 : mI A n0 12 = Int32.ofNat τ.2.2.2.1.length := by rw [x1]; exact h4
  rw [e12, succ32, x1] at eM
  have row : ∀ a, a ≠ n0 → a ≠ n0 + 5 → sameRow M M' a := fun a z z5 => by rw [eM]; exact ⟨up2_row z, rfl, rfl, rfl, up2_row z5, rfl⟩
  have EM : mE M M' := by rw [eM]; exact mE_wAJ.tr mE_wI
  have oM : ∀ a c, ok M a c → ok M' a c := fun a c ho => ok_E ho EM
  have iM : ∀ f, f ≠ 12 → mI M' n0 f = mI M n0 f := fun f z => by rw [eM, mI_wI, if_neg (fun y => z y.2), mI_wAJ]
  have hll : (τ.2.2.2.1 ++ [c]).length = τ.2.2.2.1.length + 1 := by rw [List.length_append]; rfl
  refine H M' (mAI M (n0 + 6) τ.2.2.2.1.length).toInt64 ⟨⟨⟨oM _ _ h1, ⟨h2.1, h2.2.1, h2.2.2.1, by show (τ.2.2.2.1 ++ [c]).length ≤ 6; omega⟩, by rw [iM 9 (by decide)]; exact h3, by show mI M' n0 12 = Int32.ofNat (τ.2.2.2.1 ++ [c]).length; rw [hll, eM]; exact mI_own _ _ _ _, by rw [eM]; exact h5, ⟨oM _ _ a1, by rw [eM]; exact a2, by rw [(row (n0 + 1) (by omega) (by omega)).2.2.2.2.1]; exact a3⟩, by rw [eM]; exact h6, ⟨oM _ _ q1, by rw [eM]; exact q2, by rw [eM]; exact q3⟩, by rw [eM]; exact h7, ⟨oM _ _ c1, by rw [eM]; exact c2, by rw [eM]; exact c3⟩, by rw [eM]; exact h8, ⟨oM _ _ d1, by rw [eM]; exact d2, fun k hk => ?_⟩, by rw [eM]; exact h9⟩, hP.fr EM (row _ (by omega) (by omega)) (row _ (by omega) (by omega)) (row _ (by omega) (by omega)), p3, p4, by rw [eM]; exact p5, by rw [eM]; exact p6, ⟨oM _ _ s1, by rw [eM]; exact s2, by rw [eM]; exact s3⟩, by rw [eM]; exact p7, ⟨oM _ _ b1, by rw [eM]; exact b2, by rw [eM]; exact b3⟩, by rw [eM]; exact p8, p9, by rw [eM]; exact p10⟩, ⟨by rw [iM 10 (by decide)]; exact i1, i2, by rw [eM]; exact i3, oM _ _ i4, by rw [eM]; exact i5, by rw [eM]; exact i6⟩, by rw [iM 11 (by decide)]; exact hmk, ⟨by rw [eM]; exact v1, oM _ _ v2, by rw [eM]; exact v3, by show (τ.2.2.2.2 ++ [_]).length = (τ.2.2.2.1 ++ [c]).length; rw [List.length_append, List.length_append, v4]; rfl, fun k hk => ?_⟩, by rw [eM]; exact hmx⟩ ?_ ?_
  · show mAJ M' (n0 + 5) k = (τ.2.2.2.1 ++ [c]).getD k 0
    have hk : k < (τ.2.2.2.1 ++ [c]).length := hk
    rw [hll] at hk
    rw [getD_a64 hk, eM, mAJ_wI, mAJ_wAJ]
    by_cases z : k = τ.2.2.2.1.length
    · rw [if_pos ⟨rfl, z⟩, if_pos z]
    · rw [if_neg (fun y => z y.2), if_neg z]; exact d3 k (by omega)
  · show mAI M' (n0 + 6) k = ((τ.2.2.2.2 ++ [(mAI M (n0 + 6) τ.2.2.2.1.length).toInt64]).getD k 0).toInt32
    have hk : k < (τ.2.2.2.1 ++ [c]).length := hk
    rw [hll] at hk
    rw [getD_a64 (by rw [v4]; exact hk), v4, eM, mAI_wI, mAI_wAJ]
    by_cases z : k = τ.2.2.2.1.length
    · rw [if_pos z, z]; exact (Int32.toInt32_toInt64 _).symm
    · rw [if_neg z]; exact v5 k (by omega)
  · exact ⟨⟨EM, fun a _ hn => row a (fun z => hn (Or.inr (Or.inl (by omega)))) (fun z => hn (Or.inr (Or.inl (by omega))))⟩, by rw [eM]; rfl, by rw [eM]; rfl, fun f hf => iM f (by rintro rfl; exact hf (by decide)), fun f _ => by rw [(row (n0 + 8) (by omega) (by omega)).1], fun f _ _ => by rw [eM]; rfl, by rw [eM]; exact Nat.le_refl _, by rw [eM]; rfl, Or.inl rfl, Or.inl rfl, Nat.le_refl _⟩
  · exact ⟨EM, fun a _ hn => row a (by omega) (by omega)⟩
end
