/-! the reference's compile, and its tape behind it -/
def EndRD (b : Nat → Int32) (n m h : Nat) (M : Mem) (Q : Option Value → Mem → Prop) (R : Except (Int32 × Nat) (Nat × Td × PS × Nat)) : Prop := match R with
  | .error e => ∀ M', TXr M' e.1 e.2 → mI M' 29 1 = 0 → RGc m M M' → Q (some (.int (-10 - Int32.ofNat e.2))) M'
  | .ok r => ∀ s M', Sto b n s → RPs b n s m r.2.1 [] r.2.2.1 M' r.1 0 → RTq m r.2.1 M' → (mAI M' 79 m = 0 ∧ mAI M' 122 m = 0) → mI M' 29 1 = 0 → RGc m M M' → DX11_compile_188 h 29 0 M' Q
section
variable {b : Nat → Int32} {n s m : Nat} {τ : Td} {M Mi M0 M2 M' : Mem} {i h : Nat} {Q : Option Value → Mem → Prop} {A : Nat → Nat → Int32} {B : Nat → Int64} {Zt : Nat → Nat → Int32}
theorem R_169d (hB : By b) (hz : ∀ i, n ≤ i → b i = 0) (hS : Sto b n s) (hR : RT b n s m td0 M0 0) (k0 : tK b n 0 ≠ 0) (hG : RGc m M M0) (h1 : mI M0 29 1 = 0) (hc : mAI M0 48 m = 0 ∧ mAI M0 44 m = 0 ∧ mAI M0 54 m = 0 ∧ mAI M0 55 m = 0 ∧ mAI M0 56 m = 0 ∧ mAI M0 57 m = 0 ∧ mAI M0 79 m = 0 ∧ mAI M0 122 m = 0) (hA : ∀ c, 58 ≤ c → c ≤ 75 → c ≠ 72 → mAI M0 c = A c) (hN : mAJ M0 72 = B) (hE : EndRD b n m (h + 15) M Q (rdM b n m A B Zt)) : DX11_compile_169 (h + 15) 29 M0 Q := by
  have F := hR.1.1
  unfold rdM at hE
  rw [if_neg k0] at hE
  unfold DX11_compile_169
  refine ⟨ok29 F, KX11_readTold ?_⟩
  unfold DX11_readTold_0
  refine T_told (h := h + 9) hB hS 900 M0 0 td0 (by have := hS.1; have := hS.2.1; omega) hR k0 ?_
  cases et : td b n 900 0 td0 with
  | error y =>
    rw [et] at hE
    intro M1 T1 G1 _
    have G := hG.tr G1.c
    exact ⟨rfl, fun _ => X_188 T1 (hE M1 T1 ((G1.2.2.2.2.2.2.2.2.1 1 (by decide)).trans h1) G), fun z => absurd z T1.n0⟩
  | ok r =>
    rw [et] at hE
    have hE : EndRD b n m (h + 15) M Q ((rdQ b n m r.2 r.1 (σI A B (cl0 Zt r.2))).bind fun q => .ok (q.1, r.2, q.2.1, q.2.2)) := hE
    have hmx : MxOk r.2 := td_mx 900 0 td0 r (fun k => Or.inl (by cases k <;> rfl)) et
    intro M1 R1 k1 G1 _
    refine ⟨rfl, fun z => absurd R1.2.2.2.1 z, fun _ => ?_⟩
    have fx : ∀ c, c ∉ [34, 35, 36, 38, 39, 40, 41] → mAI M1 c = mAI M0 c := fun c hc => G1.fA hc
    have jx : mAJ M1 72 = mAJ M0 72 := G1.fJ (by decide)
    refine R_parts (h := h) (A := A) (C := cl0 Zt r.2) hB hz hS hmx R1 k1 ⟨by rw [fx 48 (by decide)]; exact hc.1, by rw [fx 44 (by decide)]; exact hc.2.1, by rw [fx 54 (by decide)]; exact hc.2.2.1, by rw [fx 55 (by decide)]; exact hc.2.2.2.1, by rw [fx 56 (by decide)]; exact hc.2.2.2.2.1, by rw [fx 57 (by decide)]; exact hc.2.2.2.2.2.1⟩ (fun c z1 z2 z3 => ?_) (jx.trans hN) ?_
    · rw [fx c (by simp only [List.mem_cons, List.not_mem_nil, or_false, not_or]; omega)]
      exact hA c z1 z2 z3
    · cases eq : rdQ b n m r.2 r.1 (σI A B (cl0 Zt r.2)) with
      | error y =>
        rw [eq] at hE
        intro M3 T3 G3 _
        exact ⟨_, rfl, X_188 T3 (hE M3 T3 ((G3.2.2.2.2.2.2.2.2.1 1 (by decide)).trans ((G1.2.2.2.2.2.2.2.2.1 1 (by decide)).trans h1)) ((hG.tr G1.c).tr G3.c))⟩
      | ok q =>
        rw [eq] at hE
        intro M3 R3 G3 _
        have g79 : mAI M3 79 = mAI M0 79 := (G3.fA (c := 79) (by decide)).trans (fx 79 (by decide))
        have g122 : mAI M3 122 = mAI M0 122 := (G3.fA (c := 122) (by decide)).trans (fx 122 (by decide))
        have g35 : mAI M3 35 = mAI M1 35 := G3.fA (c := 35) (by decide)
        have g41 : mAI M3 41 = mAI M1 41 := G3.fA (c := 41) (by decide)
        have g43 : mAJ M3 43 = mAJ M1 43 := G3.fJ (c := 43) (by decide)
        refine ⟨_, rfl, hE s M3 hS R3 ⟨by rw [g35, g41]; exact R1.2.2.2.2.1, by rw [g43]; exact R1.2.2.2.2.2.1⟩ ⟨by rw [g79]; exact hc.2.2.2.2.2.2.1, by rw [g122]; exact hc.2.2.2.2.2.2.2⟩ ((G3.2.2.2.2.2.2.2.2.1 1 (by decide)).trans ((G1.2.2.2.2.2.2.2.2.1 1 (by decide)).trans h1)) ((hG.tr G1.c).tr G3.c)⟩
theorem R_compd (hB : By b) (hz : ∀ i, n ≤ i → b i = 0) (F : Fix M) (hT : TR M n b) (hm : mI M 29 18 = Int32.ofNat m) (h4 : m < 4) (hA : ∀ c, 58 ≤ c → c ≤ 75 → c ≠ 72 → mAI M c = A c) (hN : mAJ M 72 = B) (hE : EndRD b n m (h + 15) M Q (rdM b n m A B Zt)) : E (h + 16) mdX11_compile [.ref 29] M Q := by
  refine KX11_compile ?_
  unfold DX11_compile_0
  have n4 : ¬ mI M 29 18 = 4 := by
    rw [hm]
    intro z
    have : m = 4 := (z32 (k := 4) (by omega) (by decide)).mp z
    omega
  refine ⟨ok29 F, fun _ M2 e2 M3 e3 => ?_, fun z => absurd z n4⟩
  rw [hm] at e2
  have Z3 : Zer m n b M M3 [] := by
    refine ⟨by rw [e3, e2]; exact F.i.i, by rw [e3, e2]; simp [mNwI, mSwI, mKwI, mIwI, mJwI, mRwI, mLwI, mAIwI, mAJwI, mARwI, mNwJ, mSwJ, mKwJ, mIwJ, mJwJ, mRwJ, mLwJ, mAIwJ, mAJwJ, mARwJ, mNwR, mSwR, mKwR, mIwR, mJwR, mRwR, mLwR, mAIwR, mAJwR, mARwR, mNwAI, mSwAI, mKwAI, mIwAI, mJwAI, mRwAI, mLwAI, mAIwAI, mAJwAI, mARwAI, mNwAJ, mSwAJ, mKwAJ, mIwAJ, mJwAJ, mRwAJ, mLwAJ, mAIwAJ, mAJwAJ, mARwAJ, mNwAR, mSwAR, mKwAR, mIwAR, mJwAR, mRwAR, mLwAR, mAIwAR, mAJwAR, mARwAR, okkwI, okkwJ, okkwR, okkwAI, okkwAJ, okkwAR], by rw [e3]; simp [mNwI, mSwI, mKwI, mIwI, mJwI, mRwI, mLwI, mAIwI, mAJwI, mARwI, mNwJ, mSwJ, mKwJ, mIwJ, mJwJ, mRwJ, mLwJ, mAIwJ, mAJwJ, mARwJ, mNwR, mSwR, mKwR, mIwR, mJwR, mRwR, mLwR, mAIwR, mAJwR, mARwR, mNwAI, mSwAI, mKwAI, mIwAI, mJwAI, mRwAI, mLwAI, mAIwAI, mAJwAI, mARwAI, mNwAJ, mSwAJ, mKwAJ, mIwAJ, mJwAJ, mRwAJ, mLwAJ, mAIwAJ, mAJwAJ, mARwAJ, mNwAR, mSwAR, mKwAR, mIwAR, mJwAR, mRwAR, mLwAR, mAIwAR, mAJwAR, mARwAR, okkwI, okkwJ, okkwR, okkwAI, okkwAJ, okkwAR], ⟨hT.1, ?_, ?_, hT.2.2.2⟩, ?_, fun c hc => absurd hc List.not_mem_nil, fun c _ _ => by rw [e3, e2]; rfl, by rw [e3, e2]; rfl, fun q _ => by rw [e3, e2]; rfl⟩
    · rw [← hT.2.1, e3, e2]; simp [mNwI, mSwI, mKwI, mIwI, mJwI, mRwI, mLwI, mAIwI, mAJwI, mARwI, mNwJ, mSwJ, mKwJ, mIwJ, mJwJ, mRwJ, mLwJ, mAIwJ, mAJwJ, mARwJ, mNwR, mSwR, mKwR, mIwR, mJwR, mRwR, mLwR, mAIwR, mAJwR, mARwR, mNwAI, mSwAI, mKwAI, mIwAI, mJwAI, mRwAI, mLwAI, mAIwAI, mAJwAI, mARwAI, mNwAJ, mSwAJ, mKwAJ, mIwAJ, mJwAJ, mRwAJ, mLwAJ, mAIwAJ, mAJwAJ, mARwAJ, mNwAR, mSwAR, mKwAR, mIwAR, mJwAR, mRwAR, mLwAR, mAIwAR, mAJwAR, mARwAR, okkwI, okkwJ, okkwR, okkwAI, okkwAJ, okkwAR]
    · intro i hi; rw [← hT.2.2.1 i hi, e3, e2]; rfl
    · rw [e3, e2]; exact (RG.i (by decide)).tr (RG.i (by decide))
  clear e2 e3
  refine cz (rf29_8 Z3.1) (ok34 Z3.1) (ln34 Z3.1) Z3.2.1 h4 (fun M6 e6 => ?_)
  have Z6 := Z3.w (by decide) e6
  refine cz (rf29_9 Z6.1) (ok35 Z6.1) (ln35 Z6.1) Z6.2.1 h4 (fun M9 e9 => ?_)
  have Z9 := Z6.w (by decide) e9
  refine cz (rf29_10 Z9.1) (ok36 Z9.1) (ln36 Z9.1) Z9.2.1 h4 (fun M12 e12 => ?_)
  have Z12 := Z9.w (by decide) e12
  refine cz (rf29_20 Z12.1) (ok44 Z12.1) (ln44 Z12.1) Z12.2.1 h4 (fun M15 e15 => ?_)
  have Z15 := Z12.w (by decide) e15
  refine cz (rf29_24 Z15.1) (ok48 Z15.1) (ln48 Z15.1) Z15.2.1 h4 (fun M18 e18 => ?_)
  have Z18 := Z15.w (by decide) e18
  refine cz (rf29_34 Z18.1) (ok54 Z18.1) (ln54 Z18.1) Z18.2.1 h4 (fun M21 e21 => ?_)
  have Z21 := Z18.w (by decide) e21
  refine cz (rf29_35 Z21.1) (ok55 Z21.1) (ln55 Z21.1) Z21.2.1 h4 (fun M24 e24 => ?_)
  have Z24 := Z21.w (by decide) e24
  refine cz (rf29_36 Z24.1) (ok56 Z24.1) (ln56 Z24.1) Z24.2.1 h4 (fun M27 e27 => ?_)
  have Z27 := Z24.w (by decide) e27
  refine cz (rf29_37 Z27.1) (ok57 Z27.1) (ln57 Z27.1) Z27.2.1 h4 (fun M30 e30 => ?_)
  have Z30 := Z27.w (by decide) e30
  refine cz (rf29_61 Z30.1) (ok79 Z30.1) (ln79 Z30.1) Z30.2.1 h4 (fun M33 e33 => ?_)
  have Z33 := Z30.w (by decide) e33
  refine cz (rf29_114 Z33.1) (ok122 Z33.1) (ln122 Z33.1) Z33.2.1 h4 (fun M36 e36 => ?_)
  have Z36 := Z33.w (by decide) e36
  clear e6 e9 e12 e15 e18 e21 e24 e27 e30 e33 e36 Z3 Z6 Z9 Z12 Z15 Z18 Z21 Z24 Z27 Z30 Z33
  obtain ⟨F36, i19, i6, T36, G36, zz, rows, row72, r122⟩ := Z36
  refine R_cut (h := h + 12) F36 T36 hB (fun s N hs1 hs2 hs3 hR FN kN _ => ⟨rfl, fun M38 e38 M39 e39 => ?_⟩)
  have hS : Sto b n s := ⟨hs1, hT.1, hs2, hs3⟩
  have F39 : Fix M39 := by rw [e39, e38]; exact FN.i.i
  have aN : mAI M39 = mAI N := by rw [e39, e38]; rfl
  have jN : mAJ M39 = mAJ N := by rw [e39, e38]; rfl
  have G39 : RGc m M M39 := (G36.tr kN.c).tr (by rw [e39, e38]; exact (RG.i (by decide)).tr (RG.i (by decide)))
  have i5 : mI M39 29 5 = 0 := by rw [e39]; simp [mNwI, mSwI, mKwI, mIwI, mJwI, mRwI, mLwI, mAIwI, mAJwI, mARwI, mNwJ, mSwJ, mKwJ, mIwJ, mJwJ, mRwJ, mLwJ, mAIwJ, mAJwJ, mARwJ, mNwR, mSwR, mKwR, mIwR, mJwR, mRwR, mLwR, mAIwR, mAJwR, mARwR, mNwAI, mSwAI, mKwAI, mIwAI, mJwAI, mRwAI, mLwAI, mAIwAI, mAJwAI, mARwAI, mNwAJ, mSwAJ, mKwAJ, mIwAJ, mJwAJ, mRwAJ, mLwAJ, mAIwAJ, mAJwAJ, mARwAJ, mNwAR, mSwAR, mKwAR, mIwAR, mJwAR, mRwAR, mLwAR, mAIwAR, mAJwAR, mARwAR, okkwI, okkwJ, okkwR, okkwAI, okkwAJ, okkwAR]
  have i19' : mI M39 29 19 = Int32.ofNat m := by rw [← i19, e39, e38, mI_wI, if_neg (by decide), mI_wI, if_neg (by decide), kN.2.2.2.2.2.2.2.1]
  have i6' : mI M39 29 6 = 0 := by rw [e39, e38, mI_wI, if_neg (by decide), mI_wI, if_neg (by decide), kN.2.2.2.2.2.2.2.1]; exact i6
  have i1' : mI M39 29 1 = 0 := by rw [e39, mI_wI, if_neg (by decide), e38]; exact mI_own _ _ _ _
  clear e39 e38
  have k31 : mAI M39 31 0 = rS b n (tP b n 0) := by rw [aN]; exact (hR 0 (Nat.zero_le _)).1
  have k32 : mAI M39 32 0 = Int32.ofNat (tP b n 0) := by rw [aN]; exact (hR 0 (Nat.zero_le _)).2.1
  have z0 : (0 : Int32).toNatClampNeg = 0 := e0z
  refine ⟨31, rf29_2 F39, ok31 F39, by rw [ln31 F39]; exact vp_of (n := 0) (by decide) (by decide), ?_, ?_⟩
  · rw [z0, k31, (rS_rel hB).2]
    intro k0
    have fx : ∀ c, c ≠ 31 → c ≠ 32 → mAI M39 c = mAI M36 c := fun c q1 q2 => by rw [aN]; exact kN.2.2.2.2.2.2.2.2.1 c q1 q2
    have zr : ∀ c, c ∈ [122, 79, 57, 56, 55, 54, 48, 44, 36, 35, 34] → mAI M39 c m = 0 := fun c hc => by
      rw [fx c (fun q => by rw [q] at hc; exact absurd hc (by decide)) (fun q => by rw [q] at hc; exact absurd hc (by decide))]
      exact zz c hc
    have R0 : RT b n s m td0 M39 0 := by
      refine ⟨⟨F39, fun j hj => ?_, i19', h4, ⟨Nat.zero_le _, rfl, rfl, Nat.zero_le _⟩, zr 34 (by decide), zr 36 (by decide), fun k hk => absurd hk (Nat.not_lt_zero _), fun k hk => absurd hk (Nat.not_lt_zero _), fun k hk => absurd hk (Nat.not_lt_zero _), fun k hk => absurd hk (Nat.not_lt_zero _)⟩, ⟨hT.1, hs1, Nat.zero_le _⟩, i5, i6', ⟨zr 35 (by decide), by decide, fun j hj => absurd hj (Nat.not_lt_zero _)⟩, ⟨rfl, fun k hk => absurd hk (Nat.not_lt_zero _)⟩, fun k hk => absurd hk (Nat.not_lt_zero _)⟩
      have := hR j hj
      unfold RkR at this ⊢
      rw [aN, jN]
      exact this
    refine R_169d (h := h) (A := A) (B := B) (Zt := Zt) hB hz hS R0 k0 G39 i1' ⟨zr 48 (by decide), zr 44 (by decide), zr 54 (by decide), zr 55 (by decide), zr 56 (by decide), zr 57 (by decide), zr 79 (by decide), zr 122 (by decide)⟩ (fun c q1 q2 q3 => ?_) ?_ hE
    · rw [fx c (by omega) (by omega), rows c q1 q2]
      exact hA c q1 q2 q3
    · rw [jN, kN.2.2.2.2.2.2.2.2.2 72 (by decide), row72]
      exact hN
  · rw [z0, k31, (rS_rel hB).2]
    intro k0
    unfold rdM at hE
    have k0' : tK b n 0 = 0 := k0
    rw [if_pos k0'] at hE
    refine ⟨32, rf29_3 F39, ok32 F39, by rw [ln32 F39]; exact vp_of (n := 0) (by decide) (by decide), ?_⟩
    rw [k32]
    refine R_fails F39 ?_
    obtain ⟨M44, e44⟩ : ∃ z, z = flF M39 1 (Int32.ofNat (tP b n 0)) := ⟨_, rfl⟩
    rw [← e44]
    intro _
    unfold flF at e44
    rw [if_pos i6'] at e44
    obtain ⟨T44, G44⟩ := TXf6 (m := m) (p := tP b n 0) (c := 1) F39 (by decide)
    rw [← e44] at T44 G44
    refine ⟨rfl, ?_⟩
    unfold DX11_compile_169
    refine ⟨ok29 T44.1, KX11_readTold ?_⟩
    unfold DX11_readTold_0
    exact X_toldL T44 (fun _ => ⟨rfl, fun _ => X_188 T44 (hE M44 T44 ((G44.2.2.2.2.2.2.2.2.1 1 (by decide)).trans i1') (G39.tr G44.c)), fun z => absurd z T44.n0⟩)
end
/-- the reference's compile, with the ghosts that its caller chooses -/
def EndRT (b : Nat → Int32) (n m : Nat) (M : Mem) (Q : Option Value → Mem → Prop) (R : Except (Int32 × Nat) (Nat × Td × PS × Nat)) : Prop := match R with
  | .error e => ∀ M', TXr M' e.1 e.2 → mI M' 29 1 = 0 → RGc m M M' → Q (some (.int (-10 - Int32.ofNat e.2))) M'
  | .ok r => ∀ s M1, Sto b n s → RPs b n s m r.2.1 [] r.2.2.1 M1 r.1 0 → RTq m r.2.1 M1 → mAI M1 122 m = 0 → mI M1 29 1 = 0 → RGc m M M1 → ∃ γ g0, RdE r.2.1 m r.2.2.1 r.2.2.2 γ g0 ∧ RdX r.2.1 r.2.2.1 r.2.2.2 γ ∧ ((∀ j, j < npS r.2.2.1 → r.2.2.1.2.1.1 j 2 = 0) → ∀ pn S G mk nu co sl km g y M2 M3, BuR (woS r.2.1 m r.2.2.1 γ) ((trS r.2.2.1).2.2 12) m r.2.2.1.2.2.2.length (ifS r.2.2.1).length r.2.2.1.1.2.1 pn S G mk nu co sl km g y r.2.2.2 (trS r.2.2.1).2.1 (npS r.2.2.1) M2 → RGd m M1 M2 → M3 = wI M2 29 18 (mI M1 29 18 + 1) → Q (some (.int (mI M1 29 18))) M3) ∧ ∀ j pl M3, j < npS r.2.2.1 → (∀ q, q < j → r.2.2.1.2.1.1 q 2 = 0) → r.2.2.1.2.1.1 j 2 ≠ 0 → r.2.2.1.2.1.1 j 0 = Int32.ofNat pl → TXr M3 (r.2.2.1.2.1.1 j 2) pl → RGe m M1 M3 → Q (some (.int (-10 - Int32.ofNat pl))) M3
theorem EndRT.rc {b : Nat → Int32} {n m h : Nat} {M : Mem} {A : Nat → Nat → Int32} {B : Nat → Int64} {Zt : Nat → Nat → Int32} {Q : Option Value → Mem → Prop} (H : EndRT b n m M Q (rdM b n m A B Zt)) : EndRD b n m (h + 15) M Q (rdM b n m A B Zt) := by
  cases e : rdM b n m A B Zt with
  | error y => rw [e] at H; exact H
  | ok r =>
    rw [e] at H
    intro s M1 hS hR hT ⟨e79, e122⟩ h1 hG
    obtain ⟨γ, g0, rE, rX, H0, H1⟩ := H s M1 hS hR hT e122 h1 hG
    exact R_188 (h := h) hR e79 rE H0 H1
