/-! the reference: its loop over parts, and what is behind a part -/
/-- the loop's head, going on -/
def SLp (h : Nat) (Q : Option Value → Mem → Prop) (M : Mem) : Prop := T (h + 14) mdX11_readParts 22 [(0, .ref 29), (1, .int 0), (2, .int 1)] [] M Q
def PBq (h : Nat) (Q : Option Value → Mem → Prop) : Option Value → Mem → Prop := fun r M1 => ∃ v : Int32, r = some (.int v) ∧ T (h + 14) mdX11_readParts 22 [(0, .ref 29), (1, .int 0), (2, .int v)] [] M1 Q
/-- behind a part -/
def SBh (h : Nat) (Q : Option Value → Mem → Prop) (M : Mem) : Prop := DX11_behindPart_0 (h + 12) 29 M (PBq h Q)
section
variable {b : Nat → Int32} {n s m : Nat} {τ : Td} {K : List KE} {σ : PS} {M M' : Mem} {i o h : Nat} {Q : Option Value → Mem → Prop}
theorem X_loop {f v : Int32} {p : Nat} (hT : TXr M f p) (H : Q (some (.int 0)) M) : T (h + 14) mdX11_readParts 22 [(0, .ref 29), (1, .int 0), (2, .int v)] [] M Q := by
  refine VX11_readParts_22 ?_
  unfold DX11_readParts_22 DX11_readParts_160
  exact ⟨fun _ => H, fun _ => ⟨ok29 hT.1, fun _ => H, fun z => absurd z hT.n0⟩⟩
theorem X_behind {f : Int32} {p : Nat} (hT : TXr M f p) (H : Q (some (.int 0)) M) : SBh h Q M := by
  unfold SBh DX11_behindPart_0
  exact ⟨ok29 hT.1, fun _ => ⟨Or.inl rfl, ⟨0, rfl, X_loop hT H⟩⟩, fun z => absurd z hT.n0⟩
theorem R_semi (hR : RPs b n s m τ K σ M i o) (hB : By b) (hz : ∀ i, n ≤ i → b i = 0) (hS : Sto b n s) (h13 : tK b n i = 13) (H1 : tK b n (i + 1) ≠ 0 → ∀ M', RPs b n s m τ K σ M' (i + 1) o → RGp m M M' → SLp h Q M') (H0 : tK b n (i + 1) = 0 → ∀ M', TXr M' 1 (tP b n (i + 1)) → RGp m M M' → Q (some (.int 0)) M') : SBh h Q M := by
  have F := hR.1.1
  have hs := hS.lt hR.2.1.2.2 (by rw [h13]; decide) (by rw [h13]; decide)
  unfold SBh DX11_behindPart_0
  refine ⟨ok29 F, fun z => absurd hR.2.2.2.1 z, fun _ => K_sign (h := h + 11) (k := 13) (hR.tk hB) (by decide) (by decide) (fun _ _ => ⟨_, rfl, fun z => absurd z (by decide), fun _ => ?_⟩) (fun z => absurd h13 z)⟩
  refine P_take (h := h + 10) hR hB hz hs (by rw [h13]; decide) (fun k1 M5 R5 G5 _ => ⟨rfl, fun z => absurd R5.2.2.2.1 z, fun _ => ?_⟩) (fun k1 M5 T5 G5 _ => ⟨rfl, fun _ => ?_, fun z => absurd z T5.n0⟩)
  · unfold DX11_behindPart_34; exact ⟨Or.inr rfl, 1, rfl, H1 k1 M5 R5 G5⟩
  · unfold DX11_behindPart_34; exact ⟨Or.inl rfl, 0, rfl, X_loop T5 (H0 k1 M5 T5 G5)⟩
/-- the whole text is read -/
theorem R_done (hR : RPs b n s m τ [] σ M i o) (hB : By b) (h13 : tK b n i ≠ 13) (H1 : tK b n i = 1 → Q (some (.int 0)) M) (H2 : tK b n i ≠ 1 → ∀ M', TXr M' 2 (tP b n i) → RGp m M M' → Q (some (.int 0)) M') (he : mAI M 31 i = 0 ↔ tK b n i = 1) : SBh h Q M := by
  have F := hR.1.1
  have hi := hR.2.1
  have i60 : mI M 29 60 = 0 := hR.2.2.2.2.2.1.2.2.2.2.2.2.1.1
  have stop : ∀ {N : Mem}, Q (some (.int 0)) N → T (h + 14) mdX11_readParts 22 [(0, .ref 29), (1, .int 0), (2, .int 0)] [] N Q := fun q => by
    refine VX11_readParts_22 ?_
    unfold DX11_readParts_22 DX11_readParts_160
    exact ⟨fun _ => q, fun z => absurd rfl z⟩
  unfold SBh DX11_behindPart_0 DX11_behindPart_68
  refine ⟨ok29 F, fun z => absurd hR.2.2.2.1 z, fun _ => K_sign (h := h + 11) (k := 13) (hR.tk hB) (by decide) (by decide) (fun z => absurd z h13) (fun _ _ => ⟨_, rfl, fun _ => ⟨fun z => absurd i60 z, fun _ => ?_⟩, fun z => absurd rfl z⟩)⟩
  refine ⟨31, rf29_2 F, ok31 F, by rw [ln31 F, hR.2.2.1]; exact vp_of (by omega) (by decide), ?_⟩
  rw [hR.2.2.1, lt32 (by omega)]
  refine ⟨fun z => ⟨Or.inl rfl, 0, rfl, stop (H1 (he.mp z))⟩, fun z => ?_⟩
  have := P_failsA (h := h + 11) (c := 2) (H2 := fun M' => ((0 : Int32) = 0 ∨ (0 : Int32) = 1) ∧ PBq h Q (some (.int 0)) M') hR hB (by decide) (fun M' T' G' => ⟨Or.inl rfl, 0, rfl, stop (H2 (fun w => z (he.mpr w)) M' T' G')⟩)
  rw [hR.2.2.1, lt32 (by omega)] at this
  exact this
/-- what goesOn may come to, the part e being open -/
def GPo (b : Nat → Int32) (n s m : Nat) (τ : Td) (K : List KE) (e : KE) (h : Nat) (Q : Option Value → Mem → Prop) : Option Value → Mem → Prop := fun r M6 => (∃ f p, r = some (.int 0) ∧ TXr M6 f p ∧ Q (some (.int 0)) M6) ∨ (∃ σ' i', r = some (.int 0) ∧ RPs b n s m τ (e :: K) σ' M6 i' (K.length + 1) ∧ npS σ' ≤ 40 ∧ ∀ M', RPs b n s m τ K (raP σ' (up2 σ'.1.2.1 71 e.1 (Int32.ofNat (40 * m + npS σ')))) M' i' K.length → RGp m M6 M' → SBh h Q M') ∨ (∃ σ' i', r = some (.int 1) ∧ RPs b n s m τ (e :: K) σ' M6 i' (K.length + 1) ∧ (σ'.1.1 4 < 100 ∧ e.2.1 < 100 ∧ σ'.1.2.1 69 e.1 ≠ -1) ∧ ∀ M', RPs b n s m τ ((e.1, σ'.1.1 4, e.2.2.1 + 1, e.2.2.2) :: K) (rwP e.1 (some e.2.1) σ') M' i' (K.length + 1) → RGp m M6 M' → SLp h Q M')
theorem RPd.pop {e : KE} (hd : RPd m τ (e :: K) σ M) : RPd m τ K σ (wI M 29 60 (Int32.ofNat K.length)) := by
  obtain ⟨d1, d2, d3, d4, d5, d6, d7, d8, d9⟩ := hd
  have e3 : mI (wI M 29 60 (Int32.ofNat K.length)) 29 53 = mI M 29 53 := by rw [mI_wI, if_neg (by decide)]
  have l : ∀ (g : KE → Nat), (K.map g).length = K.length := fun g => List.length_map _
  exact ⟨d1.fr rfl rfl rfl rfl, d2.fr rfl rfl rfl rfl rfl, d3, d4, d5, e3.trans d6, St.pop (x := e.1) d7 (by rw [l]), St.pop (x := e.2.1) d8 (by rw [l]), St.pop (x := e.2.2.1) d9 (by rw [l])⟩
theorem R_behind {e : KE} {j : Nat} (hR : RPs b n s m τ (e :: K) σ M i (K.length + 1)) (hB : By b) (h13 : tK b n i ≠ 13) (hj : j < 40) (he : e.1 = 40 * m + j) (hl : K.length ≤ 14) (hG : E (h + 12) mdX11_goesOn [.ref 29, .int (Int32.ofNat (40 * m + j))] M (GPo b n s m τ K e h Q)) : SBh h Q M := by
  have F := hR.1.1
  have h4 := hR.1.2.2.2.1
  have l40 := lt40 h4 hj
  obtain ⟨t1, t2, t3⟩ := go_top (j := j) hR (by omega)
  have i60 : mI M 29 60 = Int32.ofNat (K.length + 1) := by
    have z := hR.2.2.2.2.2.1.2.2.2.2.2.2.1.1
    rw [List.length_map] at z
    exact z
  unfold SBh DX11_behindPart_0
  refine ⟨ok29 F, fun z => absurd hR.2.2.2.1 z, fun _ => K_sign (h := h + 11) (k := 13) (hR.tk hB) (by decide) (by decide) (fun z => absurd z h13) (fun _ _ => ⟨_, rfl, fun _ => ⟨fun _ => ?_, fun z => ?_⟩, fun z => absurd rfl z⟩)⟩
  · refine ⟨76, rf29_57 F, ok76 F, by rw [ln76 F, t1]; exact vp_of (by omega) (by decide), ?_⟩
    rw [t1, lt32 (n := K.length) (by omega), t2, he]
    refine hG.imp (fun r M6 _ g _ => ?_)
    rcases g with ⟨f, p, rfl, T6, q⟩ | ⟨σ', i', rfl, R6, h40, g⟩ | ⟨σ', i', rfl, R6, ⟨g1, g2, g3⟩, g⟩
    · refine ⟨_, rfl, fun _ => ⟨fun _ => ?_, fun z => absurd z T6.n0⟩, fun z => absurd rfl z⟩
      unfold DX11_behindPart_147
      exact VX11_behindPart_0 (X_behind T6 q)
    · refine ⟨_, rfl, fun _ => ⟨fun z => absurd R6.2.2.2.1 z, fun _ M8 e8 M9 e9 => ?_⟩, fun z => absurd rfl z⟩
      have R6' := R6
      obtain ⟨c1, c2, c3, c4, c5, c6, c7⟩ := R6
      rw [c5, dec32 (by omega)] at e8
      have R8 := R6'.op (o' := K.length) (by omega)
      rw [← e8] at R8
      have i608 : mI M8 29 60 = Int32.ofNat (K.length + 1) := by
        have z := R8.2.2.2.2.2.1.2.2.2.2.2.2.1.1
        rw [List.length_map] at z
        exact z
      rw [i608, dec32 (by omega)] at e9
      have G8 : RGp m M6 M8 := by rw [e8]; exact RG.i (by decide)
      have G9 : RGp m M8 M9 := by rw [e9]; exact RG.i (by decide)
      have R9 : RPs b n s m τ K σ' M9 i' K.length := by
        obtain ⟨x1, x2, x3, x4, x5, x6, x7⟩ := R8
        have D9 := x6.pop
        rw [← e9] at D9
        exact ⟨x1.rg G9, x2, by rw [e9]; simp [x3, mNwI, mSwI, mKwI, mIwI, mJwI, mRwI, mLwI, mAIwI, mAJwI, mARwI, mNwJ, mSwJ, mKwJ, mIwJ, mJwJ, mRwJ, mLwJ, mAIwJ, mAJwJ, mARwJ, mNwR, mSwR, mKwR, mIwR, mJwR, mRwR, mLwR, mAIwR, mAJwR, mARwR, mNwAI, mSwAI, mKwAI, mIwAI, mJwAI, mRwAI, mLwAI, mAIwAI, mAJwAI, mARwAI, mNwAJ, mSwAJ, mKwAJ, mIwAJ, mJwAJ, mRwAJ, mLwAJ, mAIwAJ, mAJwAJ, mARwAJ, mNwAR, mSwAR, mKwAR, mIwAR, mJwAR, mRwAR, mLwAR, mAIwAR, mAJwAR, mARwAR, okkwI, okkwJ, okkwR, okkwAI, okkwAJ, okkwAR], by rw [e9]; simp [x4, mNwI, mSwI, mKwI, mIwI, mJwI, mRwI, mLwI, mAIwI, mAJwI, mARwI, mNwJ, mSwJ, mKwJ, mIwJ, mJwJ, mRwJ, mLwJ, mAIwJ, mAJwJ, mARwJ, mNwR, mSwR, mKwR, mIwR, mJwR, mRwR, mLwR, mAIwR, mAJwR, mARwR, mNwAI, mSwAI, mKwAI, mIwAI, mJwAI, mRwAI, mLwAI, mAIwAI, mAJwAI, mARwAI, mNwAJ, mSwAJ, mKwAJ, mIwAJ, mJwAJ, mRwAJ, mLwAJ, mAIwAJ, mAJwAJ, mARwAJ, mNwAR, mSwAR, mKwAR, mIwAR, mJwAR, mRwAR, mLwAR, mAIwAR, mAJwAR, mARwAR, okkwI, okkwJ, okkwR, okkwAI, okkwAJ, okkwAR], by rw [e9]; simp [x5, mNwI, mSwI, mKwI, mIwI, mJwI, mRwI, mLwI, mAIwI, mAJwI, mARwI, mNwJ, mSwJ, mKwJ, mIwJ, mJwJ, mRwJ, mLwJ, mAIwJ, mAJwJ, mARwJ, mNwR, mSwR, mKwR, mIwR, mJwR, mRwR, mLwR, mAIwR, mAJwR, mARwR, mNwAI, mSwAI, mKwAI, mIwAI, mJwAI, mRwAI, mLwAI, mAIwAI, mAJwAI, mARwAI, mNwAJ, mSwAJ, mKwAJ, mIwAJ, mJwAJ, mRwAJ, mLwAJ, mAIwAJ, mAJwAJ, mARwAJ, mNwAR, mSwAR, mKwAR, mIwAR, mJwAR, mRwAR, mLwAR, mAIwAR, mAJwAR, mARwAR, okkwI, okkwJ, okkwR, okkwAI, okkwAJ, okkwAR], D9, x7⟩
      have F9 := R9.1.1
      have m9 := R9.1.2.2.1
      have eP : (40 : Int32) * Int32.ofNat m + mAI M9 54 m = Int32.ofNat (40 * m + npS σ') := off32 (a := 40) R9.2.2.2.2.2.1.2.2.2.2.1.1
      refine ⟨71, rf29_51 F9, 54, rf29_34 F9, ok54 F9, by rw [ln54 F9, m9]; exact vp_of h4 (by decide), ok71 F9, ix40 h4 hj (ln71 F9), fun M14 e14 => ?_⟩
      rw [m9, lt32 (n := m) (by omega), eP, l40] at e14
      have R14 := R9.ra (c := 71) (k := 40 * m + j) (v := Int32.ofNat (40 * m + npS σ')) (by decide) (by decide) (by decide) (by rw [sz_p (by decide) (by decide)]; omega)
      rw [← e14] at R14
      unfold DX11_behindPart_147
      refine VX11_behindPart_0 (g M14 (by rw [he]; exact R14) ((G8.tr G9).tr ?_))
      rw [e14]
      exact RGp.ra (by decide) (by decide) (by decide) (by rw [sz_p (by decide) (by decide)]; omega)
    · refine ⟨_, rfl, fun z => absurd z (by decide), fun _ => ?_⟩
      have F6 := R6.1.1
      rw [he] at g3 g
      refine P_openRow (h := h + 10) F6 h4 hj R6.2.2.2.2.2.1 he (by omega) g1 (fun z => absurd z g3) (fun _ => ⟨g2, fun M7 D7 G7 I7 _ => ⟨rfl, Or.inr rfl, 1, rfl, g M7 ?_ G7⟩⟩)
      obtain ⟨c1, c2, c3, c4, c5, c6, c7⟩ := R6
      rw [← he]
      rw [← he] at D7
      exact ⟨c1.rg G7, c2, by rw [I7 5 (by decide)]; exact c3, by rw [I7 6 (by decide)]; exact c4, by rw [I7 33 (by decide)]; exact c5, D7, c7⟩
  · rw [i60] at z
    exact absurd ((z32 (a := K.length + 1) (k := 0) (by omega) (by decide)).mp z) (by omega)
end
