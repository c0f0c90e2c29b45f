/-! the class puts down what is told -/
section
variable {b : Nat → Int32} {n s n0 : Nat} {τ : Td} {M M' : Mem} {i o lc rc : Nat} {h : Nat} {Q : Option Value → Mem → Prop}
theorem gN64 {l : List Int64} {x : Int64} {k : Nat} (h : k < l.length + 1) : (l ++ [x]).getD k 0 = if k = l.length then x else l.getD k 0 := getD_a64 h
set_option maxHeartbeats 2000000 in
theorem C_addSig {r : Int32} {c : Int64} (hm : 132 ≤ mN M) (hC : CT n0 τ M lc rc) (hr : r = 30 ∨ r = 31 ∨ r = 32) (hf : fuT r τ = false) (H : ∀ M' lc' rc', CT n0 (τ.1 ++ [c], τ.2.1 ++ [r], τ.2.2.1 ++ [0], τ.2.2.2.1, τ.2.2.2.2) M' lc' rc' → TdF n0 M M' lc rc lc' rc' τ.1.length (τ.1.length + 1) → fr (fun c => 132 ≤ c) M M' → Q none M') : E (h + 6) mdX1_addSignal [.ref n0, .long c, .int r] M Q := by
  have hCT := hC
  obtain ⟨hCB, ⟨i1, i2, i3, i4, i5, i6⟩, hmk, ⟨v1, v2, v3, v4, v5⟩, hmx⟩ := hC
  have r36 : r ≠ 36 := by rcases hr with z | z | z <;> (rw [z]; decide)
  have hL : τ.1.length < 16 ∧ (r = 30 → (inL τ.2.1).length < 4) := by
    unfold fuT at hf
    rw [if_neg r36] at hf
    simp at hf
    exact ⟨by omega, fun z => by have := hf.2 z; omega⟩
  obtain ⟨hE, hP, p3, p4, p5, p6, ⟨s1, s2, s3⟩, p7, ⟨b1, b2, b3⟩, p8, p9, p10⟩ := id hCB
  obtain ⟨h1, h2, h3, h4, h5, ⟨a1, a2, a3⟩, h6, ⟨q1, q2, q3⟩, h7, ⟨c1, c2, c3⟩, h8, ⟨d1, d2, d3⟩, h9⟩ := id hE
  have hlen := NT_len (L := τ.1.length)
  refine KX1_addSignal ?_
  unfold DX1_addSignal_0
  refine ⟨h1, S_isFull (h := h + 4) hCT ?_⟩
  rw [hf, if_neg (by decide)]
  refine fun _ => ⟨_, rfl, fun _ => ?_, fun z => absurd rfl z⟩
  rw [h3, lt32 (by omega)]
  refine ⟨n0 + 1, h5, a1, by rw [a2]; exact vp_of (by omega) (by decide), fun A1 x1 => ?_⟩
  have e1 : mI A1 n0 9 = Int32.ofNat τ.1.length := by rw [x1]; exact h3
  rw [e1, lt32 (by omega)]
  refine ⟨n0 + 2, by rw [x1]; exact h6, by rw [x1]; exact q1, by rw [x1]; show vp_in _ (mL M (n0 + 2)); rw [q2]; exact vp_of (by omega) (by decide), fun A x2 => ?_⟩
  have eA : A = wAI (wAJ M (n0 + 1) τ.1.length c) (n0 + 2) τ.1.length r := by rw [x2, x1]
  have rowA : ∀ a, a ≠ n0 + 1 → a ≠ n0 + 2 → sameRow M A a := fun a z1 z2 => by rw [eA]; exact ⟨rfl, rfl, rfl, up2_row z2, up2_row z1, rfl⟩
  have EA : mE M A := by rw [eA]; exact mE_wAJ.tr mE_wAI
  have eA9 : mI A n0 9 = Int32.ofNat τ.1.length := by rw [eA]; exact h3
  have PA : CirP A (n0 + 8) lc rc (NT τ.1.length) := hP.fr EA (rowA _ (by omega) (by omega)) (rowA _ (by omega) (by omega)) (rowA _ (by omega) (by omega))
  refine ⟨n0 + 8, by rw [eA]; exact p5, ok_E hP.1 EA, ?_⟩
  rw [eA9]
  refine KX0_addSignal ?_
  unfold DX0_addSignal_0
  refine ⟨PA.1, n0 + 20, by rw [eA]; exact p6, S_fresh PA (by omega) (fun B lc1 rc1 PB FB _ => ⟨_, rfl, ?_⟩)⟩
  rw [hlen]
  obtain ⟨k1, k2, k3, k4, k5, k6, k7, k8, k9⟩ := FB
  have nA : mN A = mN M := by rw [eA]; rfl
  have sA : mS A = mS M := by rw [eA]; rfl
  have lA : mL A = mL M := by rw [eA]; rfl
  have rowB : ∀ a, a < mN M → a ≠ n0 + 8 → a ≠ lc → a ≠ rc → sameRow A B a := fun a ha z1 z2 z3 => k1.2 a (by omega) (by rintro (z | z | z) <;> first | exact z1 z | exact z2 z | exact z3 z)
  have oB : ∀ a c, ok M a c → ok B a c := fun a c ho => ok_E (ok_E ho EA) k1.1
  have lB : ∀ a, a < mN M → mL B a = mL M a := fun a ha => ((k1.1.2.2 a (by omega)).2).trans (by rw [lA])
  refine ⟨oB _ _ s1, by rw [lB _ (by omega), s2]; exact vp_of (by omega) (by decide), fun C xC => ?_⟩
  rw [lt32 (by omega), show 2 * (τ.1.length + 2) = 4 + 2 * τ.1.length by omega] at xC
  have rowC : ∀ a, a ≠ n0 + 20 → sameRow B C a := fun a z => by rw [xC]; exact ⟨rfl, rfl, rfl, up2_row z, rfl, rfl⟩
  have EC : mE B C := by rw [xC]; exact mE_wAI
  have rn0 : sameRow M C n0 := ((rowA n0 (by omega) (by omega)).tr (rowB n0 (by omega) (by omega) (by omega) (by omega))).tr (rowC n0 (by omega))
  have PC : CirP C (n0 + 8) lc1 rc1 (NT (τ.1.length + 1)) := by
    rw [NT_succ] at PB
    exact PB.fr EC (rowC _ (by omega)) (rowC _ (by omega)) (rowC _ (by omega))
  have oC : ∀ a c, ok M a c → ok C a c := fun a c ho => ok_E (oB a c ho) EC
  have lC : ∀ a, a < mN M → mL C a = mL M a := fun a ha => by rw [xC]; exact lB a ha
  have j9 : mI C n0 9 = Int32.ofNat τ.1.length := by rw [rn0.1]; exact h3
  have j10 : mI C n0 10 = Int32.ofNat (inL τ.2.1).length := by rw [rn0.1]; exact i1
  have j11 : mI C n0 11 = omk τ.2.1 := by rw [rn0.1]; exact hmk
  have fA : fr (fun c => (n0 ≤ c ∧ c ≤ n0 + 6) ∨ c = n0 + 8 ∨ c = n0 + 20 ∨ c = lc ∨ c = rc) M A := ⟨EA, fun a _ hn => rowA a (fun z => hn (Or.inl (by omega))) (fun z => hn (Or.inl (by omega)))⟩
  have fC1 : fr (fun c => c = n0 + 20) B C := ⟨EC, fun a _ hn => rowC a hn⟩
  have frC : fr (fun c => (n0 ≤ c ∧ c ≤ n0 + 6) ∨ c = n0 + 8 ∨ c = n0 + 20 ∨ c = lc ∨ c = rc) M C := by
    refine fr.tr (fr.tr fA k1 (fun a _ z => ?_)) fC1 (fun a _ z => Or.inr (Or.inr (Or.inl z)))
    rcases z with z | z | z
    · exact Or.inr (Or.inl z)
    · exact Or.inr (Or.inr (Or.inr (Or.inl z)))
    · exact Or.inr (Or.inr (Or.inr (Or.inr z)))
  -- the end
  have fin : ∀ D : Mem, mE C D → (∀ a, a ≠ n0 → a ≠ n0 + 4 → sameRow C D a) → mR D n0 = mR C n0 → (∀ f, f ∉ [10, 11] → mI D n0 f = mI C n0 f) → mN D = mN C → mS D = mS C → mI D n0 10 = Int32.ofNat (inL (τ.2.1 ++ [r])).length → (inL (τ.2.1 ++ [r])).length ≤ 4 → (∀ j, j < (inL (τ.2.1 ++ [r])).length → mAI D (n0 + 4) j = Int32.ofNat ((inL (τ.2.1 ++ [r])).getD j 0)) → mI D n0 11 = omk (τ.2.1 ++ [r]) → DX1_addSignal_90 (h + 5) n0 D Q := by
    intro D ED rowD rD iD nD sD x10 x4 xI x11
    unfold DX1_addSignal_90
    have d9 : mI D n0 9 = Int32.ofNat τ.1.length := (iD 9 (by decide)).trans j9
    refine ⟨ok_E (oC _ _ h1) ED, fun M' eM => ?_⟩
    rw [d9, succ32] at eM
    have rowM : ∀ a, a ≠ n0 → sameRow D M' a := fun a z => by rw [eM]; exact ⟨up2_row z, rfl, rfl, rfl, rfl, rfl⟩
    have EM : mE D M' := by rw [eM]; exact mE_wI
    have rCM : ∀ a, a ≠ n0 → a ≠ n0 + 4 → sameRow C M' a := fun a z1 z2 => (rowD a z1 z2).tr (rowM a z1)
    have ECM : mE C M' := ED.tr EM
    have rMM : ∀ a, a < mN M → a ≠ n0 → a ≠ n0 + 1 → a ≠ n0 + 2 → a ≠ n0 + 4 → a ≠ n0 + 8 → a ≠ n0 + 20 → a ≠ lc → a ≠ rc → sameRow M M' a := fun a ha z0 z1 z2 z4 z8 z20 zl zr => (((rowA a z1 z2).tr (rowB a ha z8 zl zr)).tr (rowC a z20)).tr (rCM a z0 z4)
    have oM : ∀ a c, ok M a c → ok M' a c := fun a c ho => ok_E (oC a c ho) ECM
    have lM : ∀ a, a < mN M → mL M' a = mL M a := fun a ha => ((ECM.2.2 a (Nat.lt_of_lt_of_le (by omega) (Nat.le_trans k1.1.1 EC.1))).2).trans (lC a ha)
    have nn : mN M' = mN B := by rw [eM]; show mN D = mN B; rw [nD, xC]; rfl
    have ss : mS M' = mS B := by rw [eM]; show mS D = mS B; rw [sD, xC]; rfl
    have R0 : mR M' n0 = mR M n0 := by rw [eM]; show mR D n0 = mR M n0; rw [rD]; exact rn0.2.2.1
    have I0 : ∀ f, f ∉ [9, 10, 11] → mI M' n0 f = mI M n0 f := by
      intro f hf
      have z9 : f ≠ 9 := by rintro rfl; exact hf (by decide)
      rw [eM, mI_wI, if_neg (fun z => z9 z.2), iD f (fun z => hf (by simp at z ⊢; omega)), rn0.1]
    have hll : (τ.1 ++ [c]).length = τ.1.length + 1 := by rw [List.length_append]; rfl
    have g32 : ∀ (l : List Int32) (x : Int32), l.length = τ.1.length → ∀ k, k < τ.1.length + 1 → (l ++ [x]).getD k 0 = if k = τ.1.length then x else l.getD k 0 := fun l x hl k hk => by rw [getD_app (by omega), hl]
    have cell1 : sameRow A M' (n0 + 1) := ((rowB (n0 + 1) (by omega) (by omega) (by omega) (by omega)).tr (rowC _ (by omega))).tr (rCM _ (by omega) (by omega))
    have cell2 : sameRow A M' (n0 + 2) := ((rowB (n0 + 2) (by omega) (by omega) (by omega) (by omega)).tr (rowC _ (by omega))).tr (rCM _ (by omega) (by omega))
    have cell20 : mAI M' (n0 + 20) = mAI C (n0 + 20) := (rCM (n0 + 20) (by omega) (by omega)).2.2.2.1
    have cell20b : sameRow M B (n0 + 20) := (rowA _ (by omega) (by omega)).tr (rowB (n0 + 20) (by omega) (by omega) (by omega) (by omega))
    have cell8 : sameRow C M' (n0 + 8) := rCM _ (by omega) (by omega)
    have cell8R : ∀ f, f ≠ 0 → f ≠ 1 → mR M' (n0 + 8) f = mR M (n0 + 8) f := fun f z0 z1 => by rw [cell8.2.2.1, (rowC (n0 + 8) (by omega)).2.2.1, k3 f z0 z1, (rowA (n0 + 8) (by omega) (by omega)).2.2.1]
    have c3r := rMM (n0 + 3) (by omega) (by omega) (by omega) (by omega) (by omega) (by omega) (by omega) (by omega) (by omega)
    have c5r := rMM (n0 + 5) (by omega) (by omega) (by omega) (by omega) (by omega) (by omega) (by omega) (by omega) (by omega)
    have c6r := rMM (n0 + 6) (by omega) (by omega) (by omega) (by omega) (by omega) (by omega) (by omega) (by omega) (by omega)
    have c16r := rMM (n0 + 16) (by omega) (by omega) (by omega) (by omega) (by omega) (by omega) (by omega) (by omega) (by omega)
    have c14r := rMM 14 (by omega) (by omega) (by omega) (by omega) (by omega) (by omega) (by omega) (by omega) (by omega)
    have newE : EnvC M' n0 (τ.1 ++ [c]) (τ.2.1 ++ [r]) (τ.2.2.1 ++ [0]) τ.2.2.2.1 := by
      refine ⟨oM _ _ h1, ⟨by omega, by rw [List.length_append, List.length_append, h2.2.1]; rfl, by rw [List.length_append, List.length_append, h2.2.2.1]; rfl, h2.2.2.2⟩, by rw [eM, hll]; exact mI_own _ _ _ _, by rw [I0 12 (by decide)]; exact h4, by rw [R0]; exact h5, ⟨oM _ _ a1, (lM _ (by omega)).trans a2, fun k hk => ?_⟩, by rw [R0]; exact h6, ⟨oM _ _ q1, (lM _ (by omega)).trans q2, fun k hk => ?_⟩, by rw [R0]; exact h7, ⟨oM _ _ c1, (lM _ (by omega)).trans c2, fun k hk => ?_⟩, by rw [R0]; exact h8, ⟨oM _ _ d1, (lM _ (by omega)).trans d2, fun k hk => by rw [c5r.2.2.2.2.1]; exact d3 k hk⟩, by rw [R0]; exact h9⟩
      · rw [hll] at hk
        rw [getD_a64 hk, cell1.2.2.2.2.1, eA, mAJ_wAI, mAJ_wAJ]
        by_cases z : k = τ.1.length
        · rw [if_pos ⟨rfl, z⟩, if_pos z]
        · rw [if_neg (fun y => z y.2), if_neg z]; exact a3 k (by omega)
      · rw [hll] at hk
        rw [g32 _ _ h2.2.1 k hk, cell2.2.2.2.1, eA, mAI_wAI]
        by_cases z : k = τ.1.length
        · rw [if_pos ⟨rfl, z⟩, if_pos z]
        · rw [if_neg (fun y => z y.2), if_neg z, mAI_wAJ]; exact q3 k (by omega)
      · rw [hll] at hk
        rw [g32 _ _ h2.2.2.1 k hk, c3r.2.2.2.1]
        by_cases z : k = τ.1.length
        · rw [if_pos z]; exact hmx k (by omega) (by omega)
        · rw [if_neg z]; exact c3 k (by omega)
    have newB : CB n0 (τ.1 ++ [c]) (τ.2.1 ++ [r]) (τ.2.2.1 ++ [0]) τ.2.2.2.1 M' (NT (τ.1.length + 1)) lc1 rc1 (sgT (τ.1.length + 1)) (fun _ => 0) := by
      have hl1 : lc1 = n0 + 9 ∨ n0 + 25 ≤ lc1 := by omega
      have hr1 : rc1 = n0 + 10 ∨ n0 + 25 ≤ rc1 := by omega
      have hlen2 := NT_len (L := τ.1.length + 1)
      refine ⟨newE, PC.fr ECM cell8 (rCM _ (by omega) (by omega)) (rCM _ (by omega) (by omega)), hl1, hr1, by rw [R0]; exact p5, by rw [cell8R 13 (by decide) (by decide)]; exact p6, ⟨oM _ _ s1, (lM _ (by omega)).trans s2, fun k hk => ⟨?_, ?_⟩⟩, by rw [cell8R 8 (by decide) (by decide)]; exact p7, ⟨oM _ _ b1, (lM _ (by omega)).trans b2, fun k hk => ⟨by rw [c16r.2.2.2.1]; exact (b3 k hk).1, by show 0 < _; omega⟩⟩, by rw [c14r.2.2.1]; exact p8, p9, by rw [nn]; omega⟩
      · rw [cell20, xC, mAI_wAI]
        unfold sgT
        by_cases z : k = τ.1.length
        · rw [if_pos ⟨rfl, z⟩, if_pos (by omega), z]
        · rw [if_neg (fun y => z y.2), cell20b.2.2.2.1, (s3 k hk).1]
          unfold sgT
          by_cases y : k < τ.1.length
          · rw [if_pos y, if_pos (by omega)]
          · rw [if_neg y, if_neg (by omega)]
      · unfold sgT
        split <;> omega
    have fCM : fr (fun a => a = n0 ∨ a = n0 + 4) C M' := ⟨ECM, fun a _ hn => rCM a (fun z => hn (Or.inl z)) (fun z => hn (Or.inr z))⟩
    have fMM : fr (fun c => (n0 ≤ c ∧ c ≤ n0 + 6) ∨ c = n0 + 8 ∨ c = n0 + 20 ∨ c = lc ∨ c = rc) M M' := fr.tr frC fCM (fun a _ z => Or.inl (by omega))
    refine H M' lc1 rc1 ⟨?_, ⟨by rw [eM, mI_wI, if_neg (fun z => absurd z.2 (by decide))]; exact x10, x4, by rw [R0]; exact i3, oM _ _ i4, (lM _ (by omega)).trans i5, fun j hj => by rw [(rowM (n0 + 4) (by omega)).2.2.2.1]; exact xI j hj⟩, by rw [eM, mI_wI, if_neg (fun z => absurd z.2 (by decide))]; exact x11, ⟨by rw [R0]; exact v1, oM _ _ v2, (lM _ (by omega)).trans v3, v4, fun k hk => by rw [c6r.2.2.2.1]; exact v5 k hk⟩, fun j z1 z2 => ?_⟩ ?_ ?_
    · show CB n0 (τ.1 ++ [c]) (τ.2.1 ++ [r]) (τ.2.2.1 ++ [0]) τ.2.2.2.1 M' (NT (τ.1 ++ [c]).length) lc1 rc1 (sgT (τ.1 ++ [c]).length) (fun _ => 0)
      rw [hll]; exact newB
    · have z1 : (τ.1 ++ [c]).length ≤ j := z1
      rw [hll] at z1
      rw [c3r.2.2.2.1]; exact hmx j (by omega) z2
    · refine ⟨fMM.more (fun a _ z => Or.inr z), (rMM 15 (by omega) (by omega) (by omega) (by omega) (by omega) (by omega) (by omega) (by omega) (by omega)).2.2.1, R0, fun f hf => I0 f (fun z => hf (by simp at z ⊢; omega)), fun f hf => by rw [cell8.1, (rowC (n0 + 8) (by omega)).1, k2 f hf, (rowA (n0 + 8) (by omega) (by omega)).1], cell8R, ?_, ?_, by omega, by omega, by omega⟩
      · have := k5
        have e2 : (frL (NT τ.1.length)).1.length = τ.1.length + 3 := by rw [NT_succ, NT_len]
        rw [e2, NT_len] at this
        omega
      · have e5 : mL M' lc1 = mL B lc1 := by
          have := (ECM.2.2 lc1 PC.2.2.1.1).2
          rw [this, xC]; rfl
        rw [ss, e5]
        have := k6
        rw [sA, lA] at this
        exact this
    · exact fMM.more (fun a _ z => by
        rcases z with z | z | z | z | z <;> omega)
  refine fun _ => ⟨rfl, fun q => ?_, fun q => ?_⟩
  · have ei : inL (τ.2.1 ++ [r]) = inL τ.2.1 := by rw [inL_app, if_neg q, List.append_nil]
    unfold DX1_addSignal_69
    have cI : ∀ j, j < (inL τ.2.1).length → mAI C (n0 + 4) j = Int32.ofNat ((inL τ.2.1).getD j 0) := fun j hj => by rw [(((rowA (n0 + 4) (by omega) (by omega)).tr (rowB (n0 + 4) (by omega) (by omega) (by omega) (by omega))).tr (rowC (n0 + 4) (by omega))).2.2.2.1]; exact i6 j hj
    refine ⟨fun q2 => fin C mE.rf (fun a _ _ => sameRow.rf) rfl (fun _ _ => rfl) rfl rfl (by rw [ei]; exact j10) (by rw [ei]; exact i2) (by rw [ei]; exact cI) (by rw [omk_app, if_neg q2]; exact j11), fun q2 => ⟨oC _ _ h1, fun D xD => ?_⟩⟩
    rw [j9, j11] at xD
    refine fin D (by rw [xD]; exact mE_wI) (fun a z _ => by rw [xD]; exact ⟨up2_row z, rfl, rfl, rfl, rfl, rfl⟩) (by rw [xD]; rfl) (fun f hf => ?_) (by rw [xD]; rfl) (by rw [xD]; rfl) (by rw [ei, xD, mI_wI, if_neg (fun z => absurd z.2 (by decide))]; exact j10) (by rw [ei]; exact i2) (by rw [ei, xD]; exact cI) (by rw [omk_app, if_pos q2, xD, mI_own, h2.2.1])
    rw [xD, mI_wI, if_neg (by rintro ⟨-, z⟩; rw [z] at hf; exact hf (by decide))]
  · have n31 : r ≠ 31 := by rw [q]; decide
    have hI4 := hL.2 q
    have ei : inL (τ.2.1 ++ [r]) = inL τ.2.1 ++ [τ.1.length] := by rw [inL_app, if_pos q, h2.2.1]
    have r4 : sameRow M C (n0 + 4) := ((rowA (n0 + 4) (by omega) (by omega)).tr (rowB (n0 + 4) (by omega) (by omega) (by omega) (by omega))).tr (rowC (n0 + 4) (by omega))
    rw [j10, lt32 (by omega), j9]
    refine ⟨n0 + 4, by rw [rn0.2.2.1]; exact i3, oC _ _ i4, by rw [lC _ (by omega), i5]; exact vp_of (by omega) (by decide), fun D1 xD1 D xD => ?_⟩
    have d10 : mI D1 n0 10 = Int32.ofNat (inL τ.2.1).length := by rw [xD1]; exact j10
    rw [d10, succ32, xD1] at xD
    unfold DX1_addSignal_69
    refine ⟨fun _ => fin D (by rw [xD]; exact mE_wAI.tr mE_wI) (fun a z z4 => by rw [xD]; exact ⟨up2_row z, rfl, rfl, up2_row z4, rfl, rfl⟩) (by rw [xD]; rfl) (fun f hf => ?_) (by rw [xD]; rfl) (by rw [xD]; rfl) (by rw [ei, List.length_append, xD]; exact mI_own _ _ _ _) (by rw [ei, List.length_append]; show (inL τ.2.1).length + 1 ≤ 4; omega) (fun j hj => ?_) (by rw [omk_app, if_neg n31, xD, mI_wI, if_neg (fun z => absurd z.2 (by decide))]; exact j11), fun z => absurd z n31⟩
    · rw [xD, mI_wI, if_neg (by rintro ⟨-, z⟩; rw [z] at hf; exact hf (by decide)), mI_wAI]
    · rw [ei, List.length_append] at hj
      have hj : j < (inL τ.2.1).length + 1 := hj
      rw [ei, xD, mAI_wI, mAI_wAI]
      have gg : (inL τ.2.1 ++ [τ.1.length]).getD j 0 = if j = (inL τ.2.1).length then τ.1.length else (inL τ.2.1).getD j 0 := by
        rw [List.getD_eq_getElem?_getD, List.getD_eq_getElem?_getD]
        by_cases z : j = (inL τ.2.1).length
        · rw [if_pos z, z, List.getElem?_append_right (Nat.le_refl _), Nat.sub_self]; rfl
        · rw [if_neg z, List.getElem?_append_left (by omega)]
      rw [gg]
      by_cases z : j = (inL τ.2.1).length
      · rw [if_pos ⟨rfl, z⟩, if_pos z]
      · rw [if_neg (fun y => z y.2), if_neg z, r4.2.2.2.1]; exact i6 j (by omega)
end
