section
/-! the class reads what is told: against td -/
theorem ebA {ε α β γ : Type} {x : Except ε α} {f : α → Except ε β} {g : β → Except ε γ} : (x.bind f).bind g = x.bind (fun y => (f y).bind g) := by cases x <;> rfl
def tdSg (b : Nat → Int32) (n i : Nat) (r : Int32) (τ : Td) : Except (Int32 × Nat) (Nat × Td) := (adv' b n i).bind fun j => (tdX b n j r τ).bind fun k => (tdH b n k).bind fun q => .ok (q.1, (τ.1 ++ [tC b n j], τ.2.1 ++ [r], τ.2.2.1 ++ [q.2], τ.2.2.2.1, τ.2.2.2.2))
def tdVr (b : Nat → Int32) (n i : Nat) (τ : Td) : Except (Int32 × Nat) (Nat × Td) := (adv' b n i).bind fun j => (tdX b n j 36 τ).bind fun k => (tdV b n k).bind fun q => .ok (q.1, (τ.1, τ.2.1, τ.2.2.1, τ.2.2.2.1 ++ [tC b n j], τ.2.2.2.2 ++ [q.2]))
theorem td_eq {b : Nat → Int32} {n g i : Nat} {τ : Td} : td b n (g + 1) i τ = if tK b n i = 36 then (tdVr b n i τ).bind fun q => (ex b n q.1 13).bind fun l => td b n g l q.2 else if tK b n i = 30 ∨ tK b n i = 31 ∨ tK b n i = 32 then (tdSg b n i (tK b n i) τ).bind fun q => (ex b n q.1 13).bind fun l => td b n g l q.2 else .ok (i, τ) := by
  unfold tdVr tdSg
  conv => lhs; unfold td
  simp only [ebA]
  rfl
def EndTc (b : Nat → Int32) (n s n0 : Nat) (M : Mem) (lc rc L o : Nat) (Q : Option Value → Mem → Prop) (R : Except (Int32 × Nat) (Nat × Td)) : Prop := match R with
  | .ok r => ∀ M' lc' rc', TI b n s M' r.1 o → CT n0 r.2 M' lc' rc' → TdF n0 M M' lc rc lc' rc' L r.2.1.length → Q none M'
  | .error e => ∀ M' lc' rc' τ', TF M' e.1 e.2 → CT n0 τ' M' lc' rc' → TdF n0 M M' lc rc lc' rc' L τ'.1.length → Q none M'
section
variable {b : Nat → Int32} {n s n0 : Nat} {τ : Td} {M M' : Mem} {i o lc rc : Nat} {h : Nat} {Q : Option Value → Mem → Prop}
theorem C_readSig {r : Int32} (hB : By b) (hS : Sto b n s) (hr : r = 30 ∨ r = 31 ∨ r = 32) (hk : tK b n i = r) (hT : TI b n s M i o) (hC : CT n0 τ M lc rc) (hE : EndTc b n s n0 M lc rc τ.1.length o Q (tdSg b n i r τ)) : E (h + 7) mdX4_readSignal [.ref 14, .int r] M Q := by
  have F := hT.1
  have lm := hC.lim
  have h0 := hT.2.2.2.2.2.2.2.2.2
  have hs := hS.lt hT.2.1.2.2 h0 (by rw [hk]; rcases hr with z | z | z <;> (rw [z]; decide))
  unfold tdSg at hE
  refine KX4_readSignal ?_
  unfold DX4_readSignal_0
  have bad : ∀ (M1 : Mem) (f : Int32) (p : Nat), TF M1 f p → TFr M M1 → EndTc b n s n0 M lc rc τ.1.length o Q (.error (f, p)) → ∃ b6 : Nat, mR M1 14 0 = some b6 ∧ ok M1 b6 9 ∧ (¬ mI M1 b6 9 = 2 → Q none M1) ∧ ¬ mI M1 b6 9 = 2 ∧ b6 = 15 := by
    intro M1 f p T1 F1 K
    exact ⟨15, rf14_0 T1.1, ok15 T1.1, fun _ => K M1 lc rc τ T1 (hC.t F1) (TdF.t F1 lm.1), by rw [T1.2.2.2.2.2]; decide, rfl⟩
  refine ⟨ok14 F, 15, rf14_0 F, ok15 F, A_adv (h := h + 5) hT hs (fun k1 M1 T1 F1 _ => ⟨rfl, ?_⟩) (fun k1 M1 T1 F1 _ => ⟨rfl, X_check (h := h + 3) T1 (fun _ => ⟨rfl, ?_⟩)⟩)⟩
  · rw [adv_ok' k1] at hE
    have hE : EndTc b n s n0 M lc rc τ.1.length o Q ((tdX b n (i + 1) r τ).bind fun k => (tdH b n k).bind fun q => .ok (q.1, (τ.1 ++ [tC b n (i + 1)], τ.2.1 ++ [r], τ.2.2.1 ++ [q.2], τ.2.2.2.1, τ.2.2.2.2))) := hE
    unfold tdX at hE
    have C1 := hC.t F1
    refine C_check (h := h + 3) (r := r) T1 C1 hB (fun q2 q3 q6 _ => ⟨rfl, 15, rf14_0 T1.1, ok15 T1.1, fun _ => ?_, fun z => absurd (T1.kind.trans q2) z⟩) (fun q2 M2 T2 F2 _ => ⟨rfl, ?_⟩) (fun q2 q3 M2 T2 F2 _ => ⟨rfl, ?_⟩) (fun q2 q3 q6 M2 T2 F2 _ => ⟨rfl, ?_⟩)
    · rw [if_pos q2, if_neg (by rw [q3]; decide), if_neg (by rw [q6]; decide)] at hE
      have hs1 := hS.lt hs k1 (by rw [q2]; decide)
      have e9 : mI M1 n0 9 = Int32.ofNat τ.1.length := C1.1.1.2.2.1
      refine ⟨n0, C1.lim.2.2.1, C1.1.1.1, n0, C1.lim.2.2.1, 15, rf14_0 T1.1, ok15 T1.1, C1.1.1.1, ?_⟩
      rw [T1.word hB q2, e9]
      refine C_addSig (h := h) T1.1.1 C1 hr q6 (fun M2 lc2 rc2 C2 F2 f2 _ => ⟨rfl, ?_⟩)
      have T2 := TI_hi T1 f2
      have G2 := (TdF.t (lc := lc) (rc := rc) (L := τ.1.length) F1 lm.1).tr F2
      have lm2 := C2.lim
      have ll : (τ.1 ++ [tC b n (i + 1)]).length = τ.1.length + 1 := by rw [List.length_append]; rfl
      refine ⟨15, rf14_0 T2.1, ok15 T2.1, A_adv (h := h + 5) T2 hs1 (fun k2 M3 T3 F3 _ => ⟨rfl, 15, rf14_0 T3.1, ok15 T3.1, ?_⟩) (fun k2 M3 T3 F3 _ => ⟨rfl, 15, rf14_0 T3.1, ok15 T3.1, F_accept (h := h + 4) T3 (by decide) (fun _ => ⟨_, rfl, fun _ => ?_, fun z => absurd rfl z⟩)⟩)⟩
      · rw [adv_ok' k2] at hE
        have hE : EndTc b n s n0 M lc rc τ.1.length o Q ((tdH b n (i + 1 + 1)).bind fun q => .ok (q.1, (τ.1 ++ [tC b n (i + 1)], τ.2.1 ++ [r], τ.2.2.1 ++ [q.2], τ.2.2.2.1, τ.2.2.2.2))) := hE
        unfold tdH at hE
        have C3 := C2.t F3
        have G3 := G2.tr (TdF.t (lc := lc2) (rc := rc2) (L := τ.1.length + 1) F3 lm.1)
        unfold DX4_readSignal_119
        refine A_accept (h := h + 4) T3 hS (by decide) (fun q4 k4 M4 T4 F4 _ => ⟨_, rfl, fun z => absurd z (by decide), fun _ => ⟨15, rf14_0 T4.1, ok15 T4.1, ?_⟩⟩) (fun q4 k4 M4 T4 F4 _ => ⟨_, rfl, fun z => absurd z (by decide), fun _ => ⟨15, rf14_0 T4.1, ok15 T4.1, ?_⟩⟩) (fun q4 _ => ⟨_, rfl, fun _ => ?_, fun z => absurd rfl z⟩)
        · rw [if_pos q4, adv_ok' k4] at hE
          have hE : EndTc b n s n0 M lc rc τ.1.length o Q ((if tK b n (i + 1 + 1 + 1) = 33 ∨ tK b n (i + 1 + 1 + 1) = 34 ∨ tK b n (i + 1 + 1 + 1) = 35 then (adv' b n (i + 1 + 1 + 1)).bind fun l => .ok (l, tK b n (i + 1 + 1 + 1)) else .error (2, tP b n (i + 1 + 1 + 1))).bind fun q => .ok (q.1, (τ.1 ++ [tC b n (i + 1)], τ.2.1 ++ [r], τ.2.2.1 ++ [q.2], τ.2.2.2.1, τ.2.2.2.2))) := hE
          have C4 := C3.t F4
          have G4 := G3.tr (TdF.t (lc := lc2) (rc := rc2) (L := τ.1.length + 1) F4 lm.1)
          have hs3 : i + 1 + 1 + 1 ≤ s := by have := T4.2.1; omega
          rw [T4.kind]
          have good : ∀ v : Int32, tK b n (i + 1 + 1 + 1) = v → (v = 33 ∨ v = 34 ∨ v = 35) → DX4_readSignal_91 (h + 6) 14 (Int32.ofNat τ.1.length) (tK b n (i + 1 + 1 + 1)) M4 Q := by
            intro v ev hv
            rw [ev, if_pos hv] at hE
            rw [ev]
            have hs4 := hS.lt hs3 k4 (by rw [ev]; rcases hv with z | z | z <;> (rw [z]; decide))
            unfold DX4_readSignal_91 DX4_readSignal_119
            obtain ⟨-, -, -, -, -, -, -, -, h27, ⟨c1, c2, c3⟩, -⟩ := id C4.1.1
            have lml := lm.2.2.2.2.2.2
            have hl16 : τ.1.length < 16 := by have w : (τ.1 ++ [tC b n (i + 1)]).length ≤ 16 := C4.lim.2.2.2.2.2.2.1; omega
            refine ⟨ok14 T4.1, n0, C4.lim.2.2.1, C4.1.1.1, n0 + 3, h27, c1, by rw [c2]; exact vp_of hl16 (by decide), fun M5 e5 => ?_⟩
            rw [lt32 (by omega), ← lml.2] at e5
            obtain ⟨C5, G5, f5⟩ := C4.mix (mx0 := τ.2.2.1) (x := 0) rfl e5
            have T5 := TI_hi T4 f5
            have G5' : TdF n0 M4 M5 lc2 rc2 lc2 rc2 (τ.1.length + 1) (τ.1.length + 1) := by rw [← ll]; exact G5
            have T5e := rf14_0 T5.1
            refine ⟨15, rf14_0 T5.1, ok15 T5.1, A_adv (h := h + 5) T5 hs4 (fun k6 M6 T6 F6 _ => ⟨rfl, ?_⟩) (fun k6 M6 T6 F6 _ => ⟨rfl, ?_⟩)⟩
            · rw [adv_ok' k6] at hE
              refine hE M6 lc2 rc2 T6 (C5.t F6) ?_
              show TdF n0 M M6 lc rc lc2 rc2 τ.1.length (τ.1 ++ [tC b n (i + 1)]).length
              rw [ll]
              exact (G4.tr G5').tr (TdF.t F6 lm.1)
            · rw [adv_er' k6] at hE
              refine hE M6 lc2 rc2 _ T6 (C5.t F6) ?_
              show TdF n0 M M6 lc rc lc2 rc2 τ.1.length (τ.1 ++ [tC b n (i + 1)]).length
              rw [ll]
              exact (G4.tr G5').tr (TdF.t F6 lm.1)
          refine ⟨fun z => good 33 z (Or.inl rfl), fun z3 => ⟨fun z => good 34 z (Or.inr (Or.inl rfl)), fun z4 => ⟨fun z5 => ?_, fun z => good 35 z (Or.inr (Or.inr rfl))⟩⟩⟩
          rw [if_neg (by rintro (z | z | z) <;> first | exact z3 z | exact z4 z | exact z5 z)] at hE
          refine ⟨15, rf14_0 T4.1, ok15 T4.1, A_fail T4 (by decide) (fun M5 T5 F5 _ => ⟨rfl, hE M5 lc2 rc2 _ T5 (C4.t F5) ?_⟩)⟩
          show TdF n0 M M5 lc rc lc2 rc2 τ.1.length (τ.1 ++ [tC b n (i + 1)]).length
          rw [ll]
          exact G4.tr (TdF.t F5 lm.1)
        · rw [if_pos q4, adv_er' k4] at hE
          have k9 : mI M4 15 9 = 0 := T4.2.2.2.2.2
          have y : Q none M4 := by
            refine hE M4 lc2 rc2 _ T4 (C3.t F4) ?_
            show TdF n0 M M4 lc rc lc2 rc2 τ.1.length (τ.1 ++ [tC b n (i + 1)]).length
            rw [ll]
            exact G3.tr (TdF.t F4 lm.1)
          rw [k9]
          exact ⟨fun z => absurd z (by decide), fun _ => ⟨fun z => absurd z (by decide), fun _ => ⟨fun _ => ⟨15, rf14_0 T4.1, ok15 T4.1, F_fail T4 (fun _ => ⟨rfl, y⟩)⟩, fun z => absurd z (by decide)⟩⟩⟩
        · rw [if_neg q4] at hE
          refine hE M3 lc2 rc2 T3 C3 ?_
          show TdF n0 M M3 lc rc lc2 rc2 τ.1.length (τ.1 ++ [tC b n (i + 1)]).length
          rw [ll]
          exact G3
      · rw [adv_er' k2] at hE
        unfold DX4_readSignal_119
        refine hE M3 lc2 rc2 _ T3 (C2.t F3) ?_
        show TdF n0 M M3 lc rc lc2 rc2 τ.1.length (τ.1 ++ [tC b n (i + 1)]).length
        rw [ll]
        exact G2.tr (TdF.t F3 lm.1)
    · rw [if_neg q2] at hE
      obtain ⟨b6, x1, x2, x3, x4, -⟩ := bad M2 2 _ T2 (F1.tr F2) hE
      exact ⟨b6, x1, x2, fun z => absurd z x4, x3⟩
    · rw [if_pos q2, if_pos q3] at hE
      obtain ⟨b6, x1, x2, x3, x4, -⟩ := bad M2 3 _ T2 (F1.tr F2) hE
      exact ⟨b6, x1, x2, fun z => absurd z x4, x3⟩
    · rw [if_pos q2, if_neg (by rw [q3]; decide), if_pos q6] at hE
      obtain ⟨b6, x1, x2, x3, x4, -⟩ := bad M2 6 _ T2 (F1.tr F2) hE
      exact ⟨b6, x1, x2, fun z => absurd z x4, x3⟩
  · rw [adv_er' k1] at hE
    obtain ⟨b6, x1, x2, x3, x4, -⟩ := bad M1 1 _ T1 F1 hE
    exact ⟨b6, x1, x2, fun z => absurd z x4, x3⟩
theorem C_readVar (hB : By b) (hS : Sto b n s) (hk : tK b n i = 36) (hT : TI b n s M i o) (hC : CT n0 τ M lc rc) (hE : EndTc b n s n0 M lc rc τ.1.length o Q (tdVr b n i τ)) : E (h + 7) mdX4_readVariable [.ref 14] M Q := by
  have F := hT.1
  have lm := hC.lim
  have h0 := hT.2.2.2.2.2.2.2.2.2
  have hs := hS.lt hT.2.1.2.2 h0 (by rw [hk]; decide)
  unfold tdVr at hE
  refine KX4_readVariable ?_
  unfold DX4_readVariable_0
  have bad : ∀ (M1 : Mem) (f : Int32) (p : Nat), TF M1 f p → TFr M M1 → EndTc b n s n0 M lc rc τ.1.length o Q (.error (f, p)) → ∃ b6 : Nat, mR M1 14 0 = some b6 ∧ ok M1 b6 9 ∧ (¬ mI M1 b6 9 = 2 → Q none M1) ∧ ¬ mI M1 b6 9 = 2 ∧ b6 = 15 := by
    intro M1 f p T1 F1 K
    exact ⟨15, rf14_0 T1.1, ok15 T1.1, fun _ => K M1 lc rc τ T1 (hC.t F1) (TdF.t F1 lm.1), by rw [T1.2.2.2.2.2]; decide, rfl⟩
  -- behind a fault behind the name
  have end115 : ∀ (M1 : Mem) (f : Int32) (p : Nat), TF M1 f p → Q none M1 → DX4_readVariable_115 (h + 6) 14 M1 Q := by
    intro M1 f p T1 K
    unfold DX4_readVariable_115
    exact ⟨ok14 T1.1, 15, rf14_0 T1.1, ok15 T1.1, F_expect (h := h + 4) T1 (by decide) (fun _ => ⟨rfl, K⟩)⟩
  refine ⟨ok14 F, 15, rf14_0 F, ok15 F, A_adv (h := h + 5) hT hs (fun k1 M1 T1 F1 _ => ⟨rfl, ?_⟩) (fun k1 M1 T1 F1 _ => ⟨rfl, X_check (h := h + 3) T1 (fun _ => ⟨rfl, ?_⟩)⟩)⟩
  · rw [adv_ok' k1] at hE
    have hE : EndTc b n s n0 M lc rc τ.1.length o Q ((tdX b n (i + 1) 36 τ).bind fun k => (tdV b n k).bind fun q => .ok (q.1, (τ.1, τ.2.1, τ.2.2.1, τ.2.2.2.1 ++ [tC b n (i + 1)], τ.2.2.2.2 ++ [q.2]))) := hE
    unfold tdX at hE
    have C1 := hC.t F1
    refine C_check (h := h + 3) (r := 36) T1 C1 hB (fun q2 q3 q6 _ => ⟨rfl, 15, rf14_0 T1.1, ok15 T1.1, fun _ => ?_, fun z => absurd (T1.kind.trans q2) z⟩) (fun q2 M2 T2 F2 _ => ⟨rfl, ?_⟩) (fun q2 q3 M2 T2 F2 _ => ⟨rfl, ?_⟩) (fun q2 q3 q6 M2 T2 F2 _ => ⟨rfl, ?_⟩)
    · rw [if_pos q2, if_neg (by rw [q3]; decide), if_neg (by rw [q6]; decide)] at hE
      have hs1 := hS.lt hs k1 (by rw [q2]; decide)
      have e12 : mI M1 n0 12 = Int32.ofNat τ.2.2.2.1.length := C1.1.1.2.2.2.1
      refine ⟨n0, C1.lim.2.2.1, C1.1.1.1, n0, C1.lim.2.2.1, 15, rf14_0 T1.1, ok15 T1.1, C1.1.1.1, ?_⟩
      rw [T1.word hB q2, e12]
      refine C_addVar (h := h + 4) C1 q6 (fun M2 x C2 F2 f2 _ => ⟨rfl, ?_⟩)
      have T2 := TI_hi T1 f2
      have G2 := (TdF.t (lc := lc) (rc := rc) (L := τ.1.length) F1 lm.1).tr F2
      refine ⟨15, rf14_0 T2.1, ok15 T2.1, A_adv (h := h + 5) T2 hs1 (fun k2 M3 T3 F3 _ => ⟨rfl, 15, rf14_0 T3.1, ok15 T3.1, ?_⟩) (fun k2 M3 T3 F3 _ => ⟨rfl, 15, rf14_0 T3.1, ok15 T3.1, F_expect (h := h + 4) T3 (by decide) (fun _ => ⟨rfl, 15, rf14_0 T3.1, ok15 T3.1, F_accept (h := h + 4) T3 (by decide) (fun _ => ⟨_, rfl, 15, rf14_0 T3.1, ok15 T3.1, fun _ => end115 M3 _ _ T3 ?_, fun z => absurd (T3.2.2.2.2.2.symm.trans z) (by decide)⟩)⟩)⟩)⟩
      · rw [adv_ok' k2] at hE
        have hE : EndTc b n s n0 M lc rc τ.1.length o Q ((tdV b n (i + 1 + 1)).bind fun q => .ok (q.1, (τ.1, τ.2.1, τ.2.2.1, τ.2.2.2.1 ++ [tC b n (i + 1)], τ.2.2.2.2 ++ [q.2]))) := hE
        unfold tdV ex at hE
        have C3 := C2.t F3
        have G3 := G2.tr (TdF.t (lc := lc) (rc := rc) (L := τ.1.length) F3 lm.1)
        have flt : ∀ (M4 : Mem) (f : Int32) (p : Nat), TF M4 f p → TFr M3 M4 → EndTc b n s n0 M lc rc τ.1.length o Q (.error (f, p)) → Q none M4 := fun M4 f p T4 F4 K => K M4 lc rc _ T4 (C3.t F4) (G3.tr (TdF.t F4 lm.1))
        refine A_expect (h := h + 4) T3 (by decide) (fun q5 k5 M4 T4 F4 _ => ⟨rfl, 15, rf14_0 T4.1, ok15 T4.1, ?_⟩) (fun q5 k5 M4 T4 F4 _ => ⟨rfl, 15, rf14_0 T4.1, ok15 T4.1, F_accept (h := h + 4) T4 (by decide) (fun _ => ⟨_, rfl, 15, rf14_0 T4.1, ok15 T4.1, fun _ => end115 M4 _ _ T4 ?_, fun z => absurd (T4.2.2.2.2.2.symm.trans z) (by decide)⟩)⟩) (fun q5 M4 T4 F4 _ => ⟨rfl, 15, rf14_0 T4.1, ok15 T4.1, F_accept (h := h + 4) T4 (by decide) (fun _ => ⟨_, rfl, 15, rf14_0 T4.1, ok15 T4.1, fun _ => end115 M4 _ _ T4 ?_, fun z => absurd (T4.2.2.2.2.2.symm.trans z) (by decide)⟩)⟩) hS.2.2.1
        · rw [if_pos q5, adv_ok' k5] at hE
          have hE : EndTc b n s n0 M lc rc τ.1.length o Q ((if tK b n (i + 1 + 1 + 1) = 21 then (adv' b n (i + 1 + 1 + 1)).bind fun l => if tK b n l = 3 then (adv' b n l).bind fun p => .ok (p, -(tC b n l)) else .error (2, tP b n l) else if tK b n (i + 1 + 1 + 1) = 3 then (adv' b n (i + 1 + 1 + 1)).bind fun p => .ok (p, tC b n (i + 1 + 1 + 1)) else .error (2, tP b n (i + 1 + 1 + 1))).bind fun q => .ok (q.1, (τ.1, τ.2.1, τ.2.2.1, τ.2.2.2.1 ++ [tC b n (i + 1)], τ.2.2.2.2 ++ [q.2]))) := hE
          have C4 := C3.t F4
          -- at the number
          have num : ∀ (M5 : Mem) (j : Nat) (v : Int64), TI b n s M5 j o → TFr M3 M5 → tK b n j = 3 → EndTc b n s n0 M lc rc τ.1.length o Q ((adv' b n j).bind fun p => .ok (p, (τ.1, τ.2.1, τ.2.2.1, τ.2.2.2.1 ++ [tC b n (i + 1)], τ.2.2.2.2 ++ [v]))) → ∀ b29 : Nat, b29 = n0 + 6 → DX4_readVariable_113 (h + 6) 14 b29 (Int32.ofNat τ.2.2.2.1.length) v M5 Q := by
            rintro M5 j v T5 F5 q3 K b29 rfl
            have C5 := C3.t F5
            obtain ⟨-, -, -, ⟨v1, v2, v3, v4, v5⟩, -⟩ := id C5
            have v4' : (τ.2.2.2.2 ++ [x]).length = (τ.2.2.2.1 ++ [tC b n (i + 1)]).length := v4
            have hv : τ.2.2.2.2.length = τ.2.2.2.1.length := by rw [List.length_append, List.length_append] at v4'; exact Nat.succ.inj v4'
            have h6 : (τ.2.2.2.1 ++ [tC b n (i + 1)]).length ≤ 6 := C5.1.1.2.1.2.2.2
            rw [List.length_append] at h6
            have h6 : τ.2.2.2.1.length + 1 ≤ 6 := h6
            unfold DX4_readVariable_113 DX4_readVariable_115
            refine ⟨v2, by rw [v3]; exact vp_of (by omega) (by decide), fun M6 e6 => ?_⟩
            rw [lt32 (by omega), ← hv] at e6
            obtain ⟨C6, G6, f6⟩ := C5.beg (vB0 := τ.2.2.2.2) (x := x) rfl e6
            have T6 := TI_hi T5 f6
            have G6' := (G3.tr (TdF.t (lc := lc) (rc := rc) (L := τ.1.length) F5 lm.1)).tr G6
            refine ⟨ok14 T6.1, 15, rf14_0 T6.1, ok15 T6.1, A_expect (h := h + 4) T6 (by decide) (fun y3 k7 M7 T7 F7 _ => ⟨rfl, ?_⟩) (fun y3 k7 M7 T7 F7 _ => ⟨rfl, ?_⟩) (fun y3 => absurd q3 y3) hS.2.2.1⟩
            · rw [adv_ok' k7] at K
              exact K M7 lc rc T7 (C6.t F7) (G6'.tr (TdF.t F7 lm.1))
            · rw [adv_er' k7] at K
              exact K M7 lc rc _ T7 (C6.t F7) (G6'.tr (TdF.t F7 lm.1))
          have nonum : ∀ (M5 : Mem) (j : Nat), TI b n s M5 j o → TFr M3 M5 → tK b n j ≠ 3 → EndTc b n s n0 M lc rc τ.1.length o Q (.error (2, tP b n j)) → DX4_readVariable_115 (h + 6) 14 M5 Q := by
            intro M5 j T5 F5 q3 K
            unfold DX4_readVariable_115
            exact ⟨ok14 T5.1, 15, rf14_0 T5.1, ok15 T5.1, A_expect (h := h + 4) T5 (by decide) (fun y3 => absurd y3 q3) (fun y3 => absurd y3 q3) (fun _ M6 T6 F6 _ => ⟨rfl, flt M6 2 _ T6 (F5.tr F6) K⟩) hS.2.2.1⟩
          have R5 : ∀ (M5 : Mem), TFr M3 M5 → ∃ b27 : Nat, mR M5 14 7 = some b27 ∧ ok M5 b27 3 ∧ mR M5 b27 5 = some (n0 + 6) ∧ b27 = n0 := fun M5 F5 => ⟨n0, (C3.t F5).lim.2.2.1, (C3.t F5).1.1.1, (C3.t F5).2.2.2.1.1, rfl⟩
          refine A_accept (h := h + 4) T4 hS (by decide) (fun q21 k6 M5 T5 F5 _ => ⟨_, rfl, 15, rf14_0 T5.1, ok15 T5.1, fun z => ?_, fun z => ?_⟩) (fun q21 k6 M5 T5 F5 _ => ⟨_, rfl, 15, rf14_0 T5.1, ok15 T5.1, fun _ => end115 M5 _ _ T5 ?_, fun z => absurd (T5.2.2.2.2.2.symm.trans z) (by decide)⟩) (fun q21 _ => ⟨_, rfl, 15, rf14_0 T4.1, ok15 T4.1, fun z => ?_, fun z => ?_⟩)
          · rw [T5.kind] at z
            rw [if_pos q21, adv_ok' k6] at hE
            have hE : EndTc b n s n0 M lc rc τ.1.length o Q ((if tK b n (i + 1 + 1 + 1 + 1) = 3 then (adv' b n (i + 1 + 1 + 1 + 1)).bind fun p => .ok (p, -(tC b n (i + 1 + 1 + 1 + 1))) else .error (2, tP b n (i + 1 + 1 + 1 + 1))).bind fun q => .ok (q.1, (τ.1, τ.2.1, τ.2.2.1, τ.2.2.2.1 ++ [tC b n (i + 1)], τ.2.2.2.2 ++ [q.2]))) := hE
            rw [if_neg z] at hE
            exact nonum M5 _ T5 (F4.tr F5) z hE
          · rw [T5.kind] at z
            rw [if_pos q21, adv_ok' k6] at hE
            have hE : EndTc b n s n0 M lc rc τ.1.length o Q ((if tK b n (i + 1 + 1 + 1 + 1) = 3 then (adv' b n (i + 1 + 1 + 1 + 1)).bind fun p => .ok (p, -(tC b n (i + 1 + 1 + 1 + 1))) else .error (2, tP b n (i + 1 + 1 + 1 + 1))).bind fun q => .ok (q.1, (τ.1, τ.2.1, τ.2.2.1, τ.2.2.2.1 ++ [tC b n (i + 1)], τ.2.2.2.2 ++ [q.2]))) := hE
            rw [if_pos z, ebA] at hE
            obtain ⟨b27, y1, y2, y3, y4⟩ := R5 M5 (F4.tr F5)
            refine ⟨b27, y1, y2, n0 + 6, y3, fun w => absurd w (by decide), fun _ => ⟨15, rf14_0 T5.1, ok15 T5.1, ?_⟩⟩
            rw [T5.number hB z]
            exact num M5 _ _ T5 (F4.tr F5) z hE _ rfl
          · rw [if_pos q21, adv_er' k6] at hE
            exact flt M5 1 _ T5 (F4.tr F5) hE
          · rw [T4.kind] at z
            rw [if_neg q21, if_neg z] at hE
            exact nonum M4 _ T4 F4 z hE
          · rw [T4.kind] at z
            rw [if_neg q21, if_pos z, ebA] at hE
            obtain ⟨b27, y1, y2, y3, y4⟩ := R5 M4 F4
            refine ⟨b27, y1, y2, n0 + 6, y3, fun _ => ⟨15, rf14_0 T4.1, ok15 T4.1, ?_⟩, fun w => absurd rfl w⟩
            rw [T4.number hB z]
            exact num M4 _ _ T4 F4 z hE _ rfl
        · rw [if_pos q5, adv_er' k5] at hE
          exact flt M4 1 _ T4 F4 hE
        · rw [if_neg q5] at hE
          exact flt M4 2 _ T4 F4 hE
      · rw [adv_er' k2] at hE
        exact hE M3 lc rc _ T3 (C2.t F3) (G2.tr (TdF.t F3 lm.1))
    · rw [if_neg q2] at hE
      obtain ⟨b6, x1, x2, x3, x4, -⟩ := bad M2 2 _ T2 (F1.tr F2) hE
      exact ⟨b6, x1, x2, fun z => absurd z x4, x3⟩
    · rw [if_pos q2, if_pos q3] at hE
      obtain ⟨b6, x1, x2, x3, x4, -⟩ := bad M2 3 _ T2 (F1.tr F2) hE
      exact ⟨b6, x1, x2, fun z => absurd z x4, x3⟩
    · rw [if_pos q2, if_neg (by rw [q3]; decide), if_pos q6] at hE
      obtain ⟨b6, x1, x2, x3, x4, -⟩ := bad M2 6 _ T2 (F1.tr F2) hE
      exact ⟨b6, x1, x2, fun z => absurd z x4, x3⟩
  · rw [adv_er' k1] at hE
    obtain ⟨b6, x1, x2, x3, x4, -⟩ := bad M1 1 _ T1 F1 hE
    exact ⟨b6, x1, x2, fun z => absurd z x4, x3⟩
theorem EndTc.fr {M1 : Mem} {lc1 rc1 L L1 : Nat} {R : Except (Int32 × Nat) (Nat × Td)} (hE : EndTc b n s n0 M lc rc L o Q R) (F : TdF n0 M M1 lc rc lc1 rc1 L L1) : EndTc b n s n0 M1 lc1 rc1 L1 o Q R := by
  cases R with
  | error e => exact fun M' lc' rc' τ' T' C' F' => hE M' lc' rc' τ' T' C' (F.tr F')
  | ok r => exact fun M' lc' rc' T' C' F' => hE M' lc' rc' T' C' (F.tr F')
theorem X_allL {f : Int32} {p : Nat} {c : Int32} (hT : TF M f p) (H : Q none M) : T (h + 1) mdX4_readAllTold 2 [(0, .ref 14), (1, .int c)] [] M Q := by
  have F := hT.1
  have k := hT.2.2.2.2.2
  refine VX4_readAllTold_2 ?_
  unfold DX4_readAllTold_2
  refine ⟨fun _ => H, fun _ => ⟨ok14 F, 15, rf14_0 F, ok15 F, fun _ => ⟨fun hc => absurd (k ▸ hc) (by decide), fun _ => ⟨fun hc => absurd (k ▸ hc) (by decide), fun _ => ⟨fun _ => H, fun hc => absurd (k ▸ hc) (by decide)⟩⟩⟩, fun hc => absurd (k ▸ hc) (by decide)⟩⟩
theorem tdVr_ok (hS : Sto b n s) (hi : i < s) : StOk b n s i (fun j _ => i < j) (tdVr b n i τ) := by
  unfold tdVr
  rcases adv_cases (b := b) (n := n) (i := i) with ⟨k1, e⟩ | ⟨k1, e⟩ <;> rw [e]
  · show (1 : Int32) ≠ 0; decide
  · show StOk b n s i _ ((tdX b n (i + 1) 36 τ).bind _)
    unfold tdX
    split
    · rename_i q
      have hs := hS.lt hi k1 (by rw [q]; decide)
      split
      · show (3 : Int32) ≠ 0; decide
      · split
        · show (6 : Int32) ≠ 0; decide
        · rcases adv_cases (b := b) (n := n) (i := i + 1) with ⟨k2, e2⟩ | ⟨k2, e2⟩ <;> rw [e2]
          · show (1 : Int32) ≠ 0; decide
          · have := tdV_ok (b := b) (n := n) hS hs k2
            show StOk b n s i _ ((tdV b n (i + 1 + 1)).bind _)
            generalize tdV b n (i + 1 + 1) = R at this
            cases R with
            | error e => exact this
            | ok r => exact ⟨by have := this.1; show i ≤ r.1; omega, this.2.1, this.2.2.1, by have := this.1; show i < r.1; omega⟩
    · show (2 : Int32) ≠ 0; decide
theorem tdSg_ok {r : Int32} (hS : Sto b n s) (hi : i < s) : StOk b n s i (fun j _ => i < j) (tdSg b n i r τ) := by
  unfold tdSg
  rcases adv_cases (b := b) (n := n) (i := i) with ⟨k1, e⟩ | ⟨k1, e⟩ <;> rw [e]
  · show (1 : Int32) ≠ 0; decide
  · show StOk b n s i _ ((tdX b n (i + 1) r τ).bind _)
    unfold tdX
    split
    · rename_i q
      have hs := hS.lt hi k1 (by rw [q]; decide)
      split
      · show (3 : Int32) ≠ 0; decide
      · split
        · show (6 : Int32) ≠ 0; decide
        · rcases adv_cases (b := b) (n := n) (i := i + 1) with ⟨k2, e2⟩ | ⟨k2, e2⟩ <;> rw [e2]
          · show (1 : Int32) ≠ 0; decide
          · have := tdH_ok (b := b) (n := n) hS hs k2
            show StOk b n s i _ ((tdH b n (i + 1 + 1)).bind _)
            generalize tdH b n (i + 1 + 1) = R at this
            cases R with
            | error e => exact this
            | ok r => exact ⟨by have := this.1; show i ≤ r.1; omega, this.2.1, this.2.2.1, by have := this.1; show i < r.1; omega⟩
    · show (2 : Int32) ≠ 0; decide
theorem td_ok (hS : Sto b n s) : ∀ (g i : Nat) (τ : Td), s + 1 - i ≤ g → i ≤ s → tK b n i ≠ 0 → StOk b n s i (fun j _ => tK b n j ≠ 36 ∧ tK b n j ≠ 30 ∧ tK b n j ≠ 31 ∧ tK b n j ≠ 32) (td b n g i τ) := by
  intro g
  induction g with
  | zero => intro i τ hg hi _; omega
  | succ g ih =>
    intro i τ hg hi h0
    rw [td_eq]
    have go : ∀ R : Except (Int32 × Nat) (Nat × Td), StOk b n s i (fun j _ => i < j) R → StOk b n s i (fun j _ => tK b n j ≠ 36 ∧ tK b n j ≠ 30 ∧ tK b n j ≠ 31 ∧ tK b n j ≠ 32) (R.bind fun q => (ex b n q.1 13).bind fun l => td b n g l q.2) := by
      intro R hR
      cases R with
      | error e => exact hR
      | ok q =>
        obtain ⟨q1, q2, q3, q4⟩ := hR
        show StOk b n s i _ ((ex b n q.1 13).bind fun l => td b n g l q.2)
        have hx := ex_lt (c := 13) hS q2 q3 (by decide)
        generalize ex b n q.1 13 = R2 at hx
        cases R2 with
        | error e => exact hx
        | ok l =>
          obtain ⟨x1, x2, x3⟩ := hx
          have := ih l q.2 (by omega) x2 x3
          show StOk b n s i _ (td b n g l q.2)
          generalize td b n g l q.2 = R3 at this
          cases R3 with
          | error e => exact this
          | ok r => exact ⟨by have := this.1; omega, this.2⟩
    split
    · rename_i q; exact go _ (tdVr_ok hS (hS.lt hi h0 (by rw [q]; decide)))
    · split
      · rename_i n36 q
        exact go _ (tdSg_ok hS (hS.lt hi h0 (by rcases q with z | z | z <;> (rw [z]; decide))))
      · rename_i n36 q
        exact ⟨Nat.le_refl _, hi, h0, n36, fun z => q (Or.inl z), fun z => q (Or.inr (Or.inl z)), fun z => q (Or.inr (Or.inr z))⟩
theorem C_told (hB : By b) (hS : Sto b n s) : ∀ (g : Nat) (M : Mem) (i c : Nat) (τ : Td) (lc rc : Nat), s + 1 - i ≤ g → c ≤ i → TI b n s M i o → CT n0 τ M lc rc → EndTc b n s n0 M lc rc τ.1.length o Q (td b n g i τ) → T (h + 8) mdX4_readAllTold 2 [(0, .ref 14), (1, .int (Int32.ofNat c))] [] M Q := by
  intro g
  induction g with
  | zero => intro M i c τ lc rc hg _ hT _ _; have := hT.2.1; omega
  | succ g ih =>
    intro M i c τ lc rc hg hc hT hC hE
    have F := hT.1
    have lm := hC.lim
    have hi := hT.2.1
    have h0 := hT.2.2.2.2.2.2.2.2.2
    rw [td_eq] at hE
    have semi : ∀ R : Except (Int32 × Nat) (Nat × Td), StOk b n s i (fun j _ => i < j) R → EndTc b n s n0 M lc rc τ.1.length o Q (R.bind fun q => (ex b n q.1 13).bind fun l => td b n g l q.2) → EndTc b n s n0 M lc rc τ.1.length o (fun r M2 => mE M M2 → r = none ∧ DX4_readAllTold_57 (h + 7) 14 (Int32.ofNat c) M2 Q) R := by
      intro R hok K
      unfold DX4_readAllTold_57
      cases R with
      | error e => exact fun M2 lc2 rc2 τ2 T2 C2 F2 _ => ⟨rfl, ok14 T2.1, 15, rf14_0 T2.1, ok15 T2.1, F_expect (h := h + 5) T2 (by decide) (fun _ => ⟨rfl, X_allL (h := h + 7) T2 (K M2 lc2 rc2 τ2 T2 C2 F2)⟩)⟩
      | ok q =>
        obtain ⟨q1, q2, q3, q4⟩ := hok
        have K : EndTc b n s n0 M lc rc τ.1.length o Q ((ex b n q.1 13).bind fun l => td b n g l q.2) := K
        unfold ex at K
        intro M2 lc2 rc2 T2 C2 F2
        have lm2 := C2.lim
        refine fun _ => ⟨rfl, ok14 T2.1, 15, rf14_0 T2.1, ok15 T2.1, A_expect (h := h + 5) T2 (by decide) (fun y1 y2 M3 T3 F3 _ => ⟨rfl, ?_⟩) (fun y1 y2 M3 T3 F3 _ => ⟨rfl, ?_⟩) (fun y1 M3 T3 F3 _ => ⟨rfl, ?_⟩) hS.2.2.1⟩
        · rw [if_pos y1, adv_ok' y2] at K
          rw [succ32]
          exact ih M3 (q.1 + 1) (c + 1) q.2 lc2 rc2 (by omega) (by omega) T3 (C2.t F3) (EndTc.fr K (F2.tr (TdF.t F3 lm.1)))
        · rw [if_pos y1, adv_er' y2] at K
          exact X_allL (h := h + 7) T3 (K M3 lc2 rc2 q.2 T3 (C2.t F3) (F2.tr (TdF.t F3 lm.1)))
        · rw [if_neg y1] at K
          exact X_allL (h := h + 7) T3 (K M3 lc2 rc2 q.2 T3 (C2.t F3) (F2.tr (TdF.t F3 lm.1)))
    have sig : ∀ r : Int32, tK b n i = r → (r = 30 ∨ r = 31 ∨ r = 32) → DX4_readAllTold_48 (h + 7) 14 (Int32.ofNat c) (mI M 15 9) M Q := by
      intro r hk hr
      have n36 : ¬ tK b n i = 36 := by rw [hk]; rcases hr with z | z | z <;> (rw [z]; decide)
      rw [if_neg n36, if_pos (by rw [hk]; exact hr), hk] at hE
      unfold DX4_readAllTold_48
      rw [hT.kind, hk]
      exact ⟨ok14 F, C_readSig (h := h) hB hS hr hk hT hC (semi _ (tdSg_ok hS (hS.lt hi.2.2 h0 (by rw [hk]; rcases hr with z | z | z <;> (rw [z]; decide)))) hE)⟩
    refine VX4_readAllTold_2 ?_
    unfold DX4_readAllTold_2
    refine ⟨fun z => ?_, fun _ => ⟨ok14 F, 15, rf14_0 F, ok15 F, fun n36 => ⟨fun q => sig 30 (hT.kind ▸ q) (Or.inl rfl), fun n30 => ⟨fun q => sig 31 (hT.kind ▸ q) (Or.inr (Or.inl rfl)), fun n31 => ⟨fun n32 => ?_, fun q => sig 32 (hT.kind ▸ q) (Or.inr (Or.inr rfl))⟩⟩⟩, fun q => ?_⟩⟩
    · have c800 := (le32 (a := 800) (b := c) (by decide) (by omega)).mp z
      have hn := hS.2.1
      have : i = s := by omega
      have hk : tK b n i = 1 := by
        subst this
        rcases hS.2.2.1 with q | q
        · exact absurd q h0
        · exact q
      rw [if_neg (by rw [hk]; decide), if_neg (by rw [hk]; decide)] at hE
      exact hE M lc rc hT hC TdF.rf
    · rw [hT.kind] at n36 n30 n31 n32
      rw [if_neg n36, if_neg (by rintro (z | z | z) <;> first | exact n30 z | exact n31 z | exact n32 z)] at hE
      exact hE M lc rc hT hC TdF.rf
    · rw [hT.kind] at q
      rw [if_pos q] at hE
      exact C_readVar (h := h) hB hS q hT hC (semi _ (tdVr_ok hS (hS.lt hi.2.2 h0 (by rw [q]; decide))) hE)
end
end
section
/-! the tree: its rows as they stand in the memory, and what each method makes of them -/
abbrev TrT : Type := Nat × Nat × (Nat → Nat → Int32)
def mkT (Θ : TrT) (k : Int32) : TrT × Nat := if Θ.1 < 640 then ((Θ.1 + 1, Θ.2.1, up2 (up2 (up2 (up2 (up2 (up2 (up2 (up2 (up2 Θ.2.2 5 Θ.1 k) 6 Θ.1 0) 7 Θ.1 0) 8 Θ.1 0) 9 Θ.1 0) 10 Θ.1 0) 11 Θ.1 0) 12 Θ.1 0) 13 Θ.1 (if k = 0 ∨ k = 5 then 1 else 0)), Θ.1) else (Θ, 0)
def lob (x : Int32) : Int32 := x &&& (-x)
def us2 (x : Int32) : Int32 := ((x : Int32).toUInt32 >>> ((2 : Int32).toUInt32 &&& Int32.toUInt32 31)).toInt32
def us1 (x : Int32) : Int32 := ((x : Int32).toUInt32 >>> ((1 : Int32).toUInt32 &&& Int32.toUInt32 31)).toInt32
def aoT (k had added : Int32) (isF : Prop) [Decidable isF] : Int32 :=
  if k = 5 then (if had &&& 1 = 0 then had else (had &&& (-2)) ||| added) else if k = 6 then added &&& (-2)
  else if k = 8 then (if isF then added else if had = 0 ∨ added = 0 then 0 else (had ||| added) &&& (-(if lob had < lob added then lob added else lob had)))
  else if k = 9 then ((added &&& 3) ||| (us2 added &&& 1)) ||| (us1 added &&& (-4)) else had ||| added
def hgA (A : Nat → Nat → Int32) (a c : Nat) : Nat → Nat → Int32 :=
  up2 (if A 6 a = 0 then up2 (up2 (up2 (up2 A 13 a (aoT (A 5 a) (A 13 a) (A 13 c) (A 6 a = 0))) 12 a (A 12 a ||| A 12 c)) 9 c (Int32.ofNat a)) 6 a (Int32.ofNat c) else up2 (up2 (up2 (up2 A 13 a (aoT (A 5 a) (A 13 a) (A 13 c) (A 6 a = 0))) 12 a (A 12 a ||| A 12 c)) 9 c (Int32.ofNat a)) 8 (A 7 a).toNatClampNeg (Int32.ofNat c)) 7 a (Int32.ofNat c)
def hgT (Θ : TrT) (a c : Nat) : TrT := if a = 0 ∨ c = 0 then Θ else (Θ.1, Θ.2.1, hgA Θ.2.2 a c)
def TrP (M : Mem) (Θ : TrT) : Prop := mI M 4 9 = Int32.ofNat Θ.1 ∧ mI M 4 10 = Int32.ofNat Θ.2.1 ∧ (1 ≤ Θ.1 ∧ Θ.1 ≤ 640) ∧ (∀ c, 5 ≤ c → c ≤ 13 → mAI M c = Θ.2.2 c) ∧ (∀ j, 1 ≤ j → j < Θ.1 → ∃ x, x < Θ.1 ∧ Θ.2.2 7 j = Int32.ofNat x) ∧ Θ.2.2 5 0 = 0
/-- what the tree's methods may change -/
def TrF (M M' : Mem) : Prop := mN M' = mN M ∧ mS M' = mS M ∧ mK M' = mK M ∧ mL M' = mL M ∧ mR M' = mR M ∧ mJ M' = mJ M ∧ mAJ M' = mAJ M ∧ mAR M' = mAR M ∧ (∀ a, a ≠ 4 → mI M' a = mI M a) ∧ (∀ f, f ≠ 9 → f ≠ 10 → mI M' 4 f = mI M 4 f) ∧ (∀ a, a < 5 ∨ 13 < a → mAI M' a = mAI M a)
theorem TrF.rf {M : Mem} : TrF M M := ⟨rfl, rfl, rfl, rfl, rfl, rfl, rfl, rfl, fun _ _ => rfl, fun _ _ _ => rfl, fun _ _ => rfl⟩
theorem TrF.tr {M M1 M2 : Mem} (h : TrF M M1) (k : TrF M1 M2) : TrF M M2 := by
  obtain ⟨a1, a2, a3, a4, a5, a6, a7, a8, a9, aA, aB⟩ := h
  obtain ⟨b1, b2, b3, b4, b5, b6, b7, b8, b9, bA, bB⟩ := k
  exact ⟨b1.trans a1, b2.trans a2, b3.trans a3, b4.trans a4, b5.trans a5, b6.trans a6, b7.trans a7, b8.trans a8, fun a q => (b9 a q).trans (a9 a q), fun f q r => (bA f q r).trans (aA f q r), fun a q => (bB a q).trans (aB a q)⟩
theorem TrF.i {M : Mem} {f : Nat} {v : Int32} (hf : f = 9 ∨ f = 10) : TrF M (wI M 4 f v) := ⟨rfl, rfl, rfl, rfl, rfl, rfl, rfl, rfl, fun a q => up2_row q, fun g q r => by rw [mI_wI, if_neg (fun z => by omega)], fun _ _ => rfl⟩
theorem TrF.ai {M : Mem} {c k : Nat} {v : Int32} (h5 : 5 ≤ c) (h13 : c ≤ 13) : TrF M (wAI M c k v) := ⟨rfl, rfl, rfl, rfl, rfl, rfl, rfl, rfl, fun _ _ => rfl, fun _ _ _ => rfl, fun a q => up2_row (by omega)⟩
theorem TrF.e {M M' : Mem} (h : TrF M M') : mE M M' := ⟨Nat.le_of_eq h.1.symm, Nat.le_of_eq h.2.1.symm, fun a _ => ⟨by rw [h.2.2.1], by rw [h.2.2.2.1]⟩⟩
theorem TrF.fix {M M' : Mem} (h : TrF M M') (F : Fix M) : Fix M' := F.of_fr (S := fun _ => True) h.e (fun e _ => by rw [h.2.2.2.2.1]) (by rw [h.2.2.2.2.2.2.1])
theorem TrF.row {M M' : Mem} {a : Nat} (h : TrF M M') (ha : a < 4 ∨ 13 < a) : sameRow M M' a := ⟨h.2.2.2.2.2.2.2.2.1 a (by omega), by rw [h.2.2.2.2.2.1], by rw [h.2.2.2.2.1], h.2.2.2.2.2.2.2.2.2.2 a (by omega), by rw [h.2.2.2.2.2.2.1], by rw [h.2.2.2.2.2.2.2.1]⟩
theorem up2_cg {α : Type} {f g : Nat → Nat → α} {a k c : Nat} {v : α} (h : f c = g c) : up2 f a k v c = up2 g a k v c := by
  funext j
  unfold up2
  rw [h]
section
variable {M : Mem} {Θ : TrT} {h : Nat} {Q : Option Value → Mem → Prop}
theorem mkT_lt (h1 : 1 ≤ Θ.1) {k : Int32} : (mkT Θ k).2 < (mkT Θ k).1.1 := by
  unfold mkT
  by_cases q : Θ.1 < 640
  · rw [if_pos q]; exact Nat.lt_succ_self _
  · rw [if_neg q]; exact h1
theorem mkT_le {k : Int32} : Θ.1 ≤ (mkT Θ k).1.1 := by
  unfold mkT
  by_cases q : Θ.1 < 640
  · rw [if_pos q]; exact Nat.le_succ _
  · rw [if_neg q]; exact Nat.le_refl _
theorem S_mk {k : Int32} (F : Fix M) (hT : TrP M Θ) (H : ∀ M', TrP M' (mkT Θ k).1 → TrF M M' → Q (some (.int (Int32.ofNat (mkT Θ k).2))) M') : E (h + 1) mdX8_make [.ref 4, .int k] M Q := by
  obtain ⟨h1, h2, h3, h4, h5, h6⟩ := hT
  unfold mkT at H
  by_cases q : Θ.1 < 640
  · rw [if_pos q] at H
    refine S_make F h1 q (H _ ⟨by unfold mkF; simp [mNwI, mSwI, mKwI, mIwI, mJwI, mRwI, mLwI, mAIwI, mAJwI, mARwI, mNwJ, mSwJ, mKwJ, mIwJ, mJwJ, mRwJ, mLwJ, mAIwJ, mAJwJ, mARwJ, mNwR, mSwR, mKwR, mIwR, mJwR, mRwR, mLwR, mAIwR, mAJwR, mARwR, mNwAI, mSwAI, mKwAI, mIwAI, mJwAI, mRwAI, mLwAI, mAIwAI, mAJwAI, mARwAI, mNwAJ, mSwAJ, mKwAJ, mIwAJ, mJwAJ, mRwAJ, mLwAJ, mAIwAJ, mAJwAJ, mARwAJ, mNwAR, mSwAR, mKwAR, mIwAR, mJwAR, mRwAR, mLwAR, mAIwAR, mAJwAR, mARwAR, okkwI, okkwJ, okkwR, okkwAI, okkwAJ, okkwAR], by unfold mkF; simp [h2, mNwI, mSwI, mKwI, mIwI, mJwI, mRwI, mLwI, mAIwI, mAJwI, mARwI, mNwJ, mSwJ, mKwJ, mIwJ, mJwJ, mRwJ, mLwJ, mAIwJ, mAJwJ, mARwJ, mNwR, mSwR, mKwR, mIwR, mJwR, mRwR, mLwR, mAIwR, mAJwR, mARwR, mNwAI, mSwAI, mKwAI, mIwAI, mJwAI, mRwAI, mLwAI, mAIwAI, mAJwAI, mARwAI, mNwAJ, mSwAJ, mKwAJ, mIwAJ, mJwAJ, mRwAJ, mLwAJ, mAIwAJ, mAJwAJ, mARwAJ, mNwAR, mSwAR, mKwAR, mIwAR, mJwAR, mRwAR, mLwAR, mAIwAR, mAJwAR, mARwAR, okkwI, okkwJ, okkwR, okkwAI, okkwAJ, okkwAR], ⟨by show 1 ≤ Θ.1 + 1; omega, q⟩, fun c c5 c13 => ?_, fun j j1 j2 => ?_, ?_⟩ ?_)
    · show up2 (up2 (up2 (up2 (up2 (up2 (up2 (up2 (up2 (mAI M) 5 Θ.1 k) 6 Θ.1 0) 7 Θ.1 0) 8 Θ.1 0) 9 Θ.1 0) 10 Θ.1 0) 11 Θ.1 0) 12 Θ.1 0) 13 Θ.1 (if k = 0 ∨ k = 5 then 1 else 0) c = _
      exact up2_cg (up2_cg (up2_cg (up2_cg (up2_cg (up2_cg (up2_cg (up2_cg (up2_cg (h4 c c5 c13)))))))))
    · have j2 : j < Θ.1 + 1 := j2
      show ∃ x, x < Θ.1 + 1 ∧ up2 (up2 (up2 (up2 (up2 (up2 (up2 (up2 (up2 Θ.2.2 5 Θ.1 k) 6 Θ.1 0) 7 Θ.1 0) 8 Θ.1 0) 9 Θ.1 0) 10 Θ.1 0) 11 Θ.1 0) 12 Θ.1 0) 13 Θ.1 (if k = 0 ∨ k = 5 then 1 else 0) 7 j = Int32.ofNat x
      by_cases z : j = Θ.1
      · exact ⟨0, by omega, by simp [up2, z]⟩
      · obtain ⟨x, hx, ex⟩ := h5 j j1 (by omega)
        exact ⟨x, by omega, by simp [up2, z, ex]⟩
    · show up2 (up2 (up2 (up2 (up2 (up2 (up2 (up2 (up2 Θ.2.2 5 Θ.1 k) 6 Θ.1 0) 7 Θ.1 0) 8 Θ.1 0) 9 Θ.1 0) 10 Θ.1 0) 11 Θ.1 0) 12 Θ.1 0) 13 Θ.1 (if k = 0 ∨ k = 5 then 1 else 0) 5 0 = 0
      have z : ¬ (0 = Θ.1) := by omega
      simp [up2, z, h6]
    · unfold mkF
      exact (((((((((TrF.i (Or.inl rfl)).tr (TrF.ai (by decide) (by decide))).tr (TrF.ai (by decide) (by decide))).tr (TrF.ai (by decide) (by decide))).tr (TrF.ai (by decide) (by decide))).tr (TrF.ai (by decide) (by decide))).tr (TrF.ai (by decide) (by decide))).tr (TrF.ai (by decide) (by decide))).tr (TrF.ai (by decide) (by decide))).tr (TrF.ai (by decide) (by decide))
  · rw [if_neg q] at H
    have e : Θ.1 = 640 := by omega
    refine KX8_make ?_
    unfold DX8_make_0
    rw [h1, e]
    exact ⟨ok4 F, fun hc => absurd ((ltn32 (a := 640) (b := 640) (by decide) (by decide)).mp hc) (by omega), fun _ => H M ⟨h1, h2, h3, h4, h5, h6⟩ TrF.rf⟩
theorem S_lob {x : Int32} (H : Q (some (.int (lob x))) M) : E (h + 1) mdJ6_lowestOneBit_0f7a4 [.int x] M Q := by
  refine E.of (by decide) (Nat.le_of_ble_eq_true rfl) (fun _ _ _ => trivial) ?_
  show T _ _ 0 [(0, .int x)] [] M _
  refine xt_iload_n (j := 0) dJ6_lowestOneBit_0f7a4_0 rfl rfl ?_
  refine xt_iload_n (j := 0) dJ6_lowestOneBit_0f7a4_1 rfl rfl ?_
  refine xt_ineg dJ6_lowestOneBit_0f7a4_2 ?_
  refine xt_iand dJ6_lowestOneBit_0f7a4_3 ?_
  exact xt_ireturn dJ6_lowestOneBit_0f7a4_4 rfl H
/-- the end of hang, once 'atOnce' is written -/
theorem hang216 {a c : Nat} {x5 : Int32} {A0 : Nat → Nat → Int32} {v : Int32} {Mo : Mem} (F : Fix M) (h5 : ∀ j, 1 ≤ j → j < Θ.1 → ∃ x, x < Θ.1 ∧ A0 7 j = Int32.ofNat x) (hn : Θ.1 ≤ 640) (ha : 1 ≤ a ∧ a < Θ.1) (hc : c < Θ.1) (hA : ∀ q, 5 ≤ q → q ≤ 13 → mAI M q = up2 A0 13 a v q) (hx : (x5 = 0 ∧ ¬ A0 6 a = 0) ∨ (x5 ≠ 0 ∧ A0 6 a = 0)) (hI : mI M = mI Mo) (H : ∀ M', mI M' = mI Mo → (∀ q, 5 ≤ q → q ≤ 13 → mAI M' q = up2 (if A0 6 a = 0 then up2 (up2 (up2 (up2 A0 13 a v) 12 a (A0 12 a ||| A0 12 c)) 9 c (Int32.ofNat a)) 6 a (Int32.ofNat c) else up2 (up2 (up2 (up2 A0 13 a v) 12 a (A0 12 a ||| A0 12 c)) 9 c (Int32.ofNat a)) 8 (A0 7 a).toNatClampNeg (Int32.ofNat c)) 7 a (Int32.ofNat c) q) → TrF M M' → Q none M') : DX8_hang_216 h 4 (Int32.ofNat a) (Int32.ofNat c) x5 M Q := by
  unfold DX8_hang_216
  have va : ∀ {M : Mem} {q : Nat}, mL M q = 640 → vp_in (Int32.ofNat a) (mL M q) := fun e => by rw [e]; exact vp_of (by omega) (by decide)
  have vc : ∀ {M : Mem} {q : Nat}, mL M q = 640 → vp_in (Int32.ofNat c) (mL M q) := fun e => by rw [e]; exact vp_of (by omega) (by decide)
  have e12 : mAI M 12 = A0 12 := by rw [hA 12 (by decide) (by decide)]; exact up2_row (by decide)
  have e7 : mAI M 7 = A0 7 := by rw [hA 7 (by decide) (by decide)]; exact up2_row (by decide)
  rw [lt32 (by omega), lt32 (by omega)]
  refine ⟨ok4 F, 12, rf4_7 F, ok12 F, va (ln12 F), 12, rf4_7 F, ok12 F, vc (ln12 F), va (ln12 F), fun B1 b1 => ?_⟩
  rw [e12] at b1
  have F1 : Fix B1 := by rw [b1]; exact F.ai
  refine ⟨9, rf4_4 F1, ok9 F1, vc (ln9 F1), fun B2 b2 => ?_⟩
  have F2 : Fix B2 := by rw [b2]; exact F1.ai
  have T2 : TrF M B2 := by rw [b2, b1]; exact (TrF.ai (by decide) (by decide)).tr (TrF.ai (by decide) (by decide))
  have A2 : mAI B2 = up2 (up2 (mAI M) 12 a (A0 12 a ||| A0 12 c)) 9 c (Int32.ofNat a) := by rw [b2, b1]; rfl
  have fin : ∀ (B3 : Mem) (A3 : Nat → Nat → Int32), Fix B3 → TrF M B3 → mI B3 = mI Mo → (∀ q, 5 ≤ q → q ≤ 13 → mAI B3 q = A3 q) → A3 = (if A0 6 a = 0 then up2 (up2 (up2 (up2 A0 13 a v) 12 a (A0 12 a ||| A0 12 c)) 9 c (Int32.ofNat a)) 6 a (Int32.ofNat c) else up2 (up2 (up2 (up2 A0 13 a v) 12 a (A0 12 a ||| A0 12 c)) 9 c (Int32.ofNat a)) 8 (A0 7 a).toNatClampNeg (Int32.ofNat c)) → DX8_hang_265 h 4 (Int32.ofNat a) (Int32.ofNat c) B3 Q := by
    intro B3 A3 F3 T3 I3 hA3 eA3
    unfold DX8_hang_265
    rw [lt32 (by omega)]
    refine ⟨ok4 F3, 7, rf4_2 F3, ok7 F3, va (ln7 F3), fun M' eM => ?_⟩
    refine H M' (by rw [eM]; exact I3) (fun q q5 q13 => ?_) (by rw [eM]; exact T3.tr (TrF.ai (by decide) (by decide)))
    rw [← eA3, eM]
    exact up2_cg (hA3 q q5 q13)
  have hA2 : ∀ q, 5 ≤ q → q ≤ 13 → mAI B2 q = up2 (up2 (up2 A0 13 a v) 12 a (A0 12 a ||| A0 12 c)) 9 c (Int32.ofNat a) q := fun q q5 q13 => by rw [A2]; exact up2_cg (up2_cg (hA q q5 q13))
  have e7b : mAI B2 7 = A0 7 := by rw [A2, up2_row (by decide), up2_row (by decide), e7]
  obtain ⟨x, hx7, ex7⟩ := h5 a ha.1 ha.2
  refine ⟨fun z => ?_, fun z => ?_⟩
  · have nz : ¬ A0 6 a = 0 := by
      rcases hx with ⟨-, q⟩ | ⟨q, -⟩
      · exact q
      · exact absurd z q
    refine ⟨8, rf4_3 F2, 7, rf4_2 F2, ok7 F2, va (ln7 F2), ok8 F2, ?_⟩
    rw [e7b, ex7, lt32 (by omega)]
    refine ⟨by rw [ln8 F2]; exact vp_of (by omega) (by decide), fun B3 b3 => ?_⟩
    refine fin B3 _ (by rw [b3]; exact F2.ai) (by rw [b3]; exact T2.tr (TrF.ai (by decide) (by decide))) (by rw [b3, b2, b1]; exact hI) (fun q q5 q13 => ?_) rfl
    rw [if_neg nz, b3, ex7, lt32 (by omega)]
    exact up2_cg (hA2 q q5 q13)
  · have nz : A0 6 a = 0 := by
      rcases hx with ⟨q, -⟩ | ⟨-, q⟩
      · exact absurd q z
      · exact q
    refine ⟨6, rf4_1 F2, ok6 F2, va (ln6 F2), fun B3 b3 => ?_⟩
    refine fin B3 _ (by rw [b3]; exact F2.ai) (by rw [b3]; exact T2.tr (TrF.ai (by decide) (by decide))) (by rw [b3, b2, b1]; exact hI) (fun q q5 q13 => ?_) rfl
    rw [if_pos nz, b3]
    exact up2_cg (hA2 q q5 q13)
theorem hgT_n {a c : Nat} : (hgT Θ a c).1 = Θ.1 ∧ (hgT Θ a c).2.1 = Θ.2.1 := by unfold hgT; split <;> exact ⟨rfl, rfl⟩
theorem S_hg {a c : Nat} (F : Fix M) (hT : TrP M Θ) (ha : a < Θ.1) (hc : c < Θ.1) (H : ∀ M', TrP M' (hgT Θ a c) → TrF M M' → Q none M') : E (h + 2) mdX8_hang [.ref 4, .int (Int32.ofNat a), .int (Int32.ofNat c)] M Q := by
  obtain ⟨h1, h2, h3, h4, h5, h6⟩ := id hT
  have za := z32 (a := a) (k := 0) (by omega) (by decide)
  have zc := z32 (a := c) (k := 0) (by omega) (by decide)
  unfold hgT at H
  refine KX8_hang ?_
  unfold DX8_hang_0 DX8_hang_8
  refine ⟨fun q => ?_, fun qa => ⟨fun qc => ?_, fun q => ?_⟩⟩
  · rw [if_pos (Or.inl (za.mp q))] at H; exact H M hT TrF.rf
  · have na : a ≠ 0 := fun z => qa (za.mpr z)
    have nc : c ≠ 0 := fun z => qc (zc.mpr z)
    rw [if_neg (by rintro (z | z) <;> first | exact na z | exact nc z)] at H
    have va : ∀ {M : Mem} {q : Nat}, mL M q = 640 → vp_in (Int32.ofNat a) (mL M q) := fun e => by rw [e]; exact vp_of (by omega) (by decide)
    have vc : ∀ {M : Mem} {q : Nat}, mL M q = 640 → vp_in (Int32.ofNat c) (mL M q) := fun e => by rw [e]; exact vp_of (by omega) (by decide)
    -- what is behind 'atOnce'
    have fin : ∀ (B : Mem) (x5 v : Int32), B = wAI M 13 a v → ((x5 = 0 ∧ ¬ Θ.2.2 6 a = 0) ∨ (x5 ≠ 0 ∧ Θ.2.2 6 a = 0)) → v = aoT (Θ.2.2 5 a) (Θ.2.2 13 a) (Θ.2.2 13 c) (Θ.2.2 6 a = 0) → DX8_hang_216 (h + 1) 4 (Int32.ofNat a) (Int32.ofNat c) x5 B Q := by
      intro B x5 v eB hx ev
      refine hang216 (Θ := Θ) (A0 := Θ.2.2) (v := v) (Mo := M) (by rw [eB]; exact F.ai) h5 h3.2 ⟨by omega, ha⟩ hc (fun q q5 q13 => by rw [eB]; exact up2_cg (h4 q q5 q13)) hx (by rw [eB]; rfl) (fun M' I' A' Θ' => ?_)
      rw [ev] at A'
      have h0 : hgA Θ.2.2 a c 5 0 = 0 := by
        unfold hgA
        by_cases y : Θ.2.2 6 a = 0
        · simp [up2, y, h6]
        · simp [up2, y, h6]
      refine H M' ⟨by rw [I']; exact h1, by rw [I']; exact h2, h3, A', fun j j1 j2 => ?_, h0⟩ ((by rw [eB]; exact TrF.ai (by decide) (by decide) : TrF M B).tr Θ')
      show ∃ x, x < Θ.1 ∧ hgA Θ.2.2 a c 7 j = Int32.ofNat x
      unfold hgA
      by_cases z : j = a
      · exact ⟨c, hc, by simp [up2, z]⟩
      · obtain ⟨x, hx, ex⟩ := h5 j j1 j2
        refine ⟨x, hx, ?_⟩
        by_cases y : Θ.2.2 6 a = 0
        · simp [up2, z, y, ex]
        · simp [up2, z, y, ex]
    -- what is chosen by the kind
    have mid : ∀ (x5 : Int32), ((x5 = 0 ∧ ¬ Θ.2.2 6 a = 0) ∨ (x5 ≠ 0 ∧ Θ.2.2 6 a = 0)) → DX8_hang_38 (h + 1) 4 (Int32.ofNat a) (Int32.ofNat c) (Θ.2.2 13 a) (Θ.2.2 13 c) x5 M Q := by
      intro x5 hx
      have fin2 : ∀ (v : Int32), v = aoT (Θ.2.2 5 a) (Θ.2.2 13 a) (Θ.2.2 13 c) (Θ.2.2 6 a = 0) → ok M 13 21 ∧ vp_in (Int32.ofNat a) (mL M 13) ∧ ∀ B : Mem, B = wAI M 13 a v → DX8_hang_216 (h + 1) 4 (Int32.ofNat a) (Int32.ofNat c) x5 B Q := fun v ev => ⟨ok13 F, va (ln13 F), fun B eB => fin B x5 v eB hx ev⟩
      have fin3 := fun v ev => (fin2 v ev).2.2
      unfold DX8_hang_38 DX8_hang_102 DX8_hang_143 DX8_hang_155 DX8_hang_174
      rw [lt32 (by omega)]
      refine ⟨ok4 F, 5, rf4_0 F, ok5 F, va (ln5 F), ?_⟩
      rw [h4 5 (by decide) (by decide)]
      unfold aoT at fin2 fin3
      refine ⟨fun k5 => ⟨13, rf4_8 F, fun q => ?_, fun q => ?_⟩, fun k6 => ⟨13, rf4_8 F, ok13 F, va (ln13 F), fin3 _ ?_⟩, fun k7 => ⟨13, rf4_8 F, ok13 F, va (ln13 F), fin3 _ ?_⟩, fun k8 => ?_, fun k9 => ⟨13, rf4_8 F, ok13 F, va (ln13 F), fin3 _ ?_⟩, fun kd => ⟨13, rf4_8 F, ok13 F, va (ln13 F), fin3 _ ?_⟩⟩
      · exact fin2 _ (by rw [if_pos k5, if_neg q])
      · exact fin2 _ (by rw [if_pos k5, if_pos q])
      · rw [if_neg (by rw [k6]; decide), if_pos k6]
      · rw [if_neg (by rw [k7]; decide), if_neg (by rw [k7]; decide), if_neg (by rw [k7]; decide), if_neg (by rw [k7]; decide)]
      · have n5 : ¬ Θ.2.2 5 a = 5 := by rw [k8]; decide
        have n6 : ¬ Θ.2.2 5 a = 6 := by rw [k8]; decide
        refine S_lob (fun _ => ⟨_, rfl, S_lob (fun _ => ⟨_, rfl, fun q => ⟨ok4 F, 13, rf4_8 F, fun z => fin2 _ ?_, fun z => fin2 _ ?_⟩, fun q => ⟨fun q2 => ⟨ok4 F, 13, rf4_8 F, fun z => fin2 _ ?_, fun z => fin2 _ ?_⟩, fun q2 => ⟨ok4 F, 13, rf4_8 F, fun z => fin2 _ ?_, fun z => fin2 _ ?_⟩⟩⟩)⟩)
        · have f0 : ¬ Θ.2.2 6 a = 0 := by rcases hx with ⟨-, y⟩ | ⟨y, -⟩; exact y; exact absurd z y
          rw [if_neg n5, if_neg n6, if_pos k8, if_neg f0, if_pos (Or.inl q)]
        · have f0 : Θ.2.2 6 a = 0 := by rcases hx with ⟨y, -⟩ | ⟨-, y⟩; exact absurd y z; exact y
          rw [if_neg n5, if_neg n6, if_pos k8, if_pos f0]
        · have f0 : ¬ Θ.2.2 6 a = 0 := by rcases hx with ⟨-, y⟩ | ⟨y, -⟩; exact y; exact absurd z y
          rw [if_neg n5, if_neg n6, if_pos k8, if_neg f0, if_neg (show ¬ (Θ.2.2 13 a = 0 ∨ Θ.2.2 13 c = 0) from fun y => y.elim q q2)]
        · have f0 : Θ.2.2 6 a = 0 := by rcases hx with ⟨y, -⟩ | ⟨-, y⟩; exact absurd y z; exact y
          rw [if_neg n5, if_neg n6, if_pos k8, if_pos f0]
        · have f0 : ¬ Θ.2.2 6 a = 0 := by rcases hx with ⟨-, y⟩ | ⟨y, -⟩; exact y; exact absurd z y
          rw [if_neg n5, if_neg n6, if_pos k8, if_neg f0, if_pos (Or.inr q2)]
        · have f0 : Θ.2.2 6 a = 0 := by rcases hx with ⟨y, -⟩ | ⟨-, y⟩; exact absurd y z; exact y
          rw [if_neg n5, if_neg n6, if_pos k8, if_pos f0]
      · rw [if_neg (by rw [k9]; decide), if_neg (by rw [k9]; decide), if_neg (by rw [k9]; decide), if_pos k9]; rfl
      · have ne : ∀ k : Int32, 5 ≤ k.toInt → k.toInt ≤ 9 → ¬ Θ.2.2 5 a = k := fun k y1 y2 z => by rw [z] at kd; omega
        rw [if_neg (ne 5 (by decide) (by decide)), if_neg (ne 6 (by decide) (by decide)), if_neg (ne 8 (by decide) (by decide)), if_neg (ne 9 (by decide) (by decide))]
    rw [lt32 (by omega), lt32 (by omega)]
    refine ⟨ok4 F, 13, rf4_8 F, ok13 F, va (ln13 F), 13, rf4_8 F, ok13 F, vc (ln13 F), 6, rf4_1 F, ok6 F, va (ln6 F), ?_⟩
    rw [h4 6 (by decide) (by decide), h4 13 (by decide) (by decide)]
    exact ⟨fun q => mid 0 (Or.inl ⟨rfl, q⟩), fun q => mid 1 (Or.inr ⟨by decide, q⟩)⟩
  · rw [if_pos (Or.inr (zc.mp q))] at H; exact H M hT TrF.rf
end
end
section
/-! the tree: the methods that put nodes together -/
def wrT (Θ : TrT) (k : Int32) (c : Nat) : TrT × Nat := (hgT (mkT Θ k).1 (mkT Θ k).2 c, (mkT Θ k).2)
def prT (Θ : TrT) (k : Int32) (c d : Nat) : TrT × Nat := (hgT (hgT (mkT Θ k).1 (mkT Θ k).2 c) (mkT Θ k).2 d, (mkT Θ k).2)
def paT (Θ : TrT) : TrT × Nat := (((mkT Θ 1).1.1, (mkT Θ 1).1.2.1 + 1, up2 (up2 (up2 (mkT Θ 1).1.2.2 11 (mkT Θ 1).2 (Int32.ofNat Θ.2.1)) 12 (mkT Θ 1).2 ((1 : Int32) <<< (Int32.ofNat Θ.2.1 &&& 31))) 13 (mkT Θ 1).2 2), (mkT Θ 1).2)
def emT (Θ : TrT) (v : Nat) : TrT × Nat := (((mkT Θ 2).1.1, (mkT Θ 2).1.2.1, up2 (up2 (mkT Θ 2).1.2.2 11 (mkT Θ 2).2 (Int32.ofNat v)) 13 (mkT Θ 2).2 1), (mkT Θ 2).2)
def exT (Θ : TrT) (v : Nat) : TrT × Nat := (((mkT Θ 3).1.1, (mkT Θ 3).1.2.1, up2 (up2 (mkT Θ 3).1.2.2 11 (mkT Θ 3).2 (2 + Int32.ofNat v)) 13 (mkT Θ 3).2 ((1 : Int32) <<< ((2 + Int32.ofNat v) &&& 31))), (mkT Θ 3).2)
def cdT (Θ : TrT) (a : Nat) (l : Int32) : TrT := (Θ.1, Θ.2.1, up2 Θ.2.2 10 a l)
def chT (Θ : TrT) (l : Int32) (c d : Nat) : TrT × Nat := (cdT (prT Θ 4 c d).1 (prT Θ 4 c d).2 l, (prT Θ 4 c d).2)
def suT (Θ : TrT) (c : Nat) (l : Int32) : TrT × Nat := (cdT (wrT Θ 7 c).1 (wrT Θ 7 c).2 l, (wrT Θ 7 c).2)
def haT (Θ : TrT) : TrT × Nat := wrT (paT Θ).1 6 (paT Θ).2
def stT (Θ : TrT) (v : Nat) : TrT × Nat := wrT (prT (paT (emT Θ v).1).1 5 (emT Θ v).2 (paT (emT Θ v).1).2).1 6 (prT (paT (emT Θ v).1).1 5 (emT Θ v).2 (paT (emT Θ v).1).2).2
def wt1 (Θ : TrT) : TrT × Nat := mkT (exT (paT Θ).1 0).1 0
def wt2 (Θ : TrT) (l : Int32) : TrT × Nat := chT (wt1 Θ).1 l (exT (paT Θ).1 0).2 (wt1 Θ).2
def wt3 (Θ : TrT) (l : Int32) (im : Bool) : TrT × Nat := if im then prT (wt2 Θ l).1 5 (wt2 Θ l).2 (paT Θ).2 else prT (wt2 Θ l).1 5 (paT Θ).2 (wt2 Θ l).2
def waT (Θ : TrT) (l : Int32) (im : Bool) : TrT × Nat := wrT (wt3 Θ l im).1 6 (wt3 Θ l im).2
def awT (Θ : TrT) (l : Int32) (im : Bool) : TrT × Nat := wrT (waT Θ l im).1 9 (waT Θ l im).2
def wk1 (Θ : TrT) (c : Nat) : TrT × Nat := prT (exT Θ 0).1 5 c (exT Θ 0).2
def wk2 (Θ : TrT) (c : Nat) (l : Int32) (im : Bool) : TrT × Nat := waT (wk1 Θ c).1 l im
def wk3 (Θ : TrT) (c : Nat) (l : Int32) (im : Bool) : TrT × Nat := prT (wk2 Θ c l im).1 8 (wk1 Θ c).2 (wk2 Θ c l im).2
def wkT (Θ : TrT) (c : Nat) (l : Int32) (im : Bool) : TrT × Nat := wrT (wk3 Θ c l im).1 9 (wk3 Θ c l im).2
def abT (Θ : TrT) (c : Nat) (l : Int32) : TrT × Nat := wkT (suT Θ c l).1 (suT Θ c l).2 l false
/-- a step of the tree: the node is one of it, and none goes -/
def Ts (Θ : TrT) (r : TrT × Nat) : Prop := Θ.1 ≤ r.1.1 ∧ r.2 < r.1.1
theorem Ts.tr {Θ : TrT} {r q : TrT × Nat} (h : Ts Θ r) (k : Ts r.1 q) : Ts Θ q := ⟨Nat.le_trans h.1 k.1, k.2⟩
section
variable {M : Mem} {Θ : TrT} {h : Nat} {Q : Option Value → Mem → Prop}
theorem ts_mk {k : Int32} (h1 : 1 ≤ Θ.1) : Ts Θ (mkT Θ k) := ⟨mkT_le, mkT_lt h1⟩
theorem ts_wr {k : Int32} {c : Nat} (h1 : 1 ≤ Θ.1) : Ts Θ (wrT Θ k c) := ⟨by show Θ.1 ≤ (hgT _ _ _).1; rw [hgT_n.1]; exact mkT_le, by show _ < (hgT _ _ _).1; rw [hgT_n.1]; exact mkT_lt h1⟩
theorem ts_pr {k : Int32} {c d : Nat} (h1 : 1 ≤ Θ.1) : Ts Θ (prT Θ k c d) := ⟨by show Θ.1 ≤ (hgT _ _ _).1; rw [hgT_n.1, hgT_n.1]; exact mkT_le, by show _ < (hgT _ _ _).1; rw [hgT_n.1, hgT_n.1]; exact mkT_lt h1⟩
theorem ts_pa (h1 : 1 ≤ Θ.1) : Ts Θ (paT Θ) := ⟨mkT_le, mkT_lt h1⟩
theorem ts_em {v : Nat} (h1 : 1 ≤ Θ.1) : Ts Θ (emT Θ v) := ⟨mkT_le, mkT_lt h1⟩
theorem ts_ex {v : Nat} (h1 : 1 ≤ Θ.1) : Ts Θ (exT Θ v) := ⟨mkT_le, mkT_lt h1⟩
theorem ts_ch {l : Int32} {c d : Nat} (h1 : 1 ≤ Θ.1) : Ts Θ (chT Θ l c d) := ts_pr (k := 4) (c := c) (d := d) h1
theorem ts_su {l : Int32} {c : Nat} (h1 : 1 ≤ Θ.1) : Ts Θ (suT Θ c l) := ts_wr (k := 7) (c := c) h1
theorem Ts.one {r : TrT × Nat} (h : Ts Θ r) (h1 : 1 ≤ Θ.1) : 1 ≤ r.1.1 := Nat.le_trans h1 h.1
theorem ts_ha (h1 : 1 ≤ Θ.1) : Ts Θ (haT Θ) := (ts_pa h1).tr (ts_wr ((ts_pa h1).one h1))
theorem ts_st {v : Nat} (h1 : 1 ≤ Θ.1) : Ts Θ (stT Θ v) := by
  have a := ts_em (v := v) h1
  have b := ts_pa (a.one h1)
  have c := ts_pr (k := 5) (c := (emT Θ v).2) (d := (paT (emT Θ v).1).2) (b.one (a.one h1))
  exact ((a.tr b).tr c).tr (ts_wr (c.one (b.one (a.one h1))))
theorem ts_w1 (h1 : 1 ≤ Θ.1) : Ts Θ (wt1 Θ) := ((ts_pa h1).tr (ts_ex ((ts_pa h1).one h1))).tr (ts_mk ((ts_ex ((ts_pa h1).one h1)).one ((ts_pa h1).one h1)))
theorem ts_w2 {l : Int32} (h1 : 1 ≤ Θ.1) : Ts Θ (wt2 Θ l) := (ts_w1 h1).tr (ts_ch ((ts_w1 h1).one h1))
theorem ts_w3 {l : Int32} {im : Bool} (h1 : 1 ≤ Θ.1) : Ts Θ (wt3 Θ l im) := by
  unfold wt3
  split
  · exact (ts_w2 h1).tr (ts_pr ((ts_w2 h1).one h1))
  · exact (ts_w2 h1).tr (ts_pr ((ts_w2 h1).one h1))
theorem ts_wa {l : Int32} {im : Bool} (h1 : 1 ≤ Θ.1) : Ts Θ (waT Θ l im) := (ts_w3 h1).tr (ts_wr ((ts_w3 h1).one h1))
theorem ts_aw {l : Int32} {im : Bool} (h1 : 1 ≤ Θ.1) : Ts Θ (awT Θ l im) := (ts_wa h1).tr (ts_wr ((ts_wa h1).one h1))
theorem ts_k1 {c : Nat} (h1 : 1 ≤ Θ.1) : Ts Θ (wk1 Θ c) := (ts_ex h1).tr (ts_pr ((ts_ex h1).one h1))
theorem ts_k2 {c : Nat} {l : Int32} {im : Bool} (h1 : 1 ≤ Θ.1) : Ts Θ (wk2 Θ c l im) := (ts_k1 h1).tr (ts_wa ((ts_k1 h1).one h1))
theorem ts_k3 {c : Nat} {l : Int32} {im : Bool} (h1 : 1 ≤ Θ.1) : Ts Θ (wk3 Θ c l im) := (ts_k2 h1).tr (ts_pr ((ts_k2 h1).one h1))
theorem ts_wk {c : Nat} {l : Int32} {im : Bool} (h1 : 1 ≤ Θ.1) : Ts Θ (wkT Θ c l im) := (ts_k3 h1).tr (ts_wr ((ts_k3 h1).one h1))
theorem ts_ab {c : Nat} {l : Int32} (h1 : 1 ≤ Θ.1) : Ts Θ (abT Θ c l) := (ts_su h1).tr (ts_wk ((ts_su h1).one h1))
theorem TrP.one (hT : TrP M Θ) : 1 ≤ Θ.1 ∧ Θ.1 ≤ 640 := hT.2.2.1
/-- one row at a node is written: not the last children -/
theorem TrP.ai {q a : Nat} {v : Int32} (hT : TrP M Θ) (h7 : q ≠ 7) (h5 : 6 ≤ q) (h13 : q ≤ 13) : TrP (wAI M q a v) (Θ.1, Θ.2.1, up2 Θ.2.2 q a v) := by
  obtain ⟨h1, h2, h3, h4, h5', h6⟩ := hT
  refine ⟨h1, h2, h3, fun c c5 c13 => up2_cg (h4 c c5 c13), fun j j1 j2 => ?_, by show up2 Θ.2.2 q a v 5 0 = 0; rw [up2_row (fun z => by omega)]; exact h6⟩
  obtain ⟨x, hx, ex⟩ := h5' j j1 j2
  exact ⟨x, hx, by show up2 Θ.2.2 q a v 7 j = _; rw [up2_row (fun z => h7 z.symm)]; exact ex⟩
theorem S_wr {k : Int32} {c : Nat} (F : Fix M) (hT : TrP M Θ) (hc : c < Θ.1) (H : ∀ M', TrP M' (wrT Θ k c).1 → TrF M M' → Q (some (.int (Int32.ofNat (wrT Θ k c).2))) M') : E (h + 3) mdX8_wrap [.ref 4, .int k, .int (Int32.ofNat c)] M Q := by
  have m := ts_mk (k := k) hT.one.1
  refine KX8_wrap ?_
  unfold DX8_wrap_0
  exact ⟨ok4 F, S_mk F hT (fun M1 T1 F1 _ => ⟨_, rfl, S_hg (h := h) (F1.fix F) T1 m.2 (Nat.lt_of_lt_of_le hc m.1) (fun M2 T2 F2 _ => ⟨rfl, H M2 T2 (F1.tr F2)⟩)⟩)⟩
theorem S_pr {k : Int32} {c d : Nat} (F : Fix M) (hT : TrP M Θ) (hc : c < Θ.1) (hd : d < Θ.1) (H : ∀ M', TrP M' (prT Θ k c d).1 → TrF M M' → Q (some (.int (Int32.ofNat (prT Θ k c d).2))) M') : E (h + 3) mdX8_pair [.ref 4, .int k, .int (Int32.ofNat c), .int (Int32.ofNat d)] M Q := by
  have m := ts_mk (k := k) hT.one.1
  refine KX8_pair ?_
  unfold DX8_pair_0
  exact ⟨ok4 F, S_mk F hT (fun M1 T1 F1 _ => ⟨_, rfl, S_hg (h := h) (F1.fix F) T1 m.2 (Nat.lt_of_lt_of_le hc m.1) (fun M2 T2 F2 _ => ⟨rfl, S_hg (h := h) ((F1.tr F2).fix F) T2 (by rw [hgT_n.1]; exact m.2) (by rw [hgT_n.1]; exact Nat.lt_of_lt_of_le hd m.1) (fun M3 T3 F3 _ => ⟨rfl, H M3 T3 ((F1.tr F2).tr F3)⟩)⟩)⟩)⟩
theorem S_pa (F : Fix M) (hT : TrP M Θ) (H : ∀ M', TrP M' (paT Θ).1 → TrF M M' → Q (some (.int (Int32.ofNat (paT Θ).2))) M') : E (h + 2) mdX8_pauseNode [.ref 4] M Q := by
  have m := ts_mk (k := 1) hT.one.1
  have m2 := m.2
  have hpz : (mkT Θ 1).1.2.1 = Θ.2.1 := by unfold mkT; split <;> rfl
  refine KX8_pauseNode ?_
  unfold DX8_pauseNode_0
  refine ⟨ok4 F, S_mk F hT (fun M1 T1 F1 _ => ⟨_, rfl, ?_⟩)⟩
  have l1 := T1.one
  have vv : ∀ {M : Mem} {q : Nat}, mL M q = 640 → vp_in (Int32.ofNat (mkT Θ 1).2) (mL M q) := fun e => by rw [e]; exact vp_of (by omega) (by decide)
  have G1 := F1.fix F
  have i10 : mI M1 4 10 = Int32.ofNat Θ.2.1 := by rw [T1.2.1, hpz]
  rw [lt32 (by omega), i10]
  refine ⟨11, rf4_6 G1, ok11 G1, vv (ln11 G1), fun A a => ?_⟩
  have GA : Fix A := by rw [a]; exact G1.ai
  have iA : mI A 4 10 = Int32.ofNat Θ.2.1 := by rw [a]; exact i10
  rw [iA]
  refine ⟨12, rf4_7 GA, ok12 GA, vv (ln12 GA), fun B bb => ?_⟩
  have GB : Fix B := by rw [bb]; exact GA.ai
  refine ⟨13, rf4_8 GB, ok13 GB, vv (ln13 GB), fun C c D d => ?_⟩
  have iC : mI C 4 10 = Int32.ofNat Θ.2.1 := by rw [c, bb]; exact iA
  rw [iC, succ32] at d
  have TC : TrP C ((mkT Θ 1).1.1, (mkT Θ 1).1.2.1, up2 (up2 (up2 (mkT Θ 1).1.2.2 11 (mkT Θ 1).2 (Int32.ofNat Θ.2.1)) 12 (mkT Θ 1).2 ((1 : Int32) <<< (Int32.ofNat Θ.2.1 &&& 31))) 13 (mkT Θ 1).2 2) := by
    rw [c, bb, a]
    exact ((T1.ai (q := 11) (by decide) (by decide) (by decide)).ai (q := 12) (by decide) (by decide) (by decide)).ai (q := 13) (by decide) (by decide) (by decide)
  refine H D ?_ ?_
  · obtain ⟨t1, t2, t3, t4, t5⟩ := TC
    refine ⟨by rw [d, mI_wI, if_neg (by decide)]; exact t1, by rw [d, mI_own]; show _ = Int32.ofNat ((mkT Θ 1).1.2.1 + 1); rw [hpz], t3, fun q q5 q13 => by rw [d]; exact t4 q q5 q13, t5⟩
  · rw [d, c, bb, a]
    exact (((F1.tr (TrF.ai (by decide) (by decide))).tr (TrF.ai (by decide) (by decide))).tr (TrF.ai (by decide) (by decide))).tr (TrF.i (Or.inr rfl))
theorem S_em {v : Nat} (F : Fix M) (hT : TrP M Θ) (H : ∀ M', TrP M' (emT Θ v).1 → TrF M M' → Q (some (.int (Int32.ofNat (emT Θ v).2))) M') : E (h + 2) mdX8_emit [.ref 4, .int (Int32.ofNat v)] M Q := by
  have m := ts_mk (k := 2) hT.one.1
  have m2 := m.2
  refine KX8_emit ?_
  unfold DX8_emit_0
  refine ⟨ok4 F, S_mk F hT (fun M1 T1 F1 _ => ⟨_, rfl, ?_⟩)⟩
  have l1 := T1.one
  have vv : ∀ {M : Mem} {q : Nat}, mL M q = 640 → vp_in (Int32.ofNat (mkT Θ 2).2) (mL M q) := fun e => by rw [e]; exact vp_of (by omega) (by decide)
  have G1 := F1.fix F
  rw [lt32 (by omega)]
  refine ⟨11, rf4_6 G1, ok11 G1, vv (ln11 G1), fun A a => ?_⟩
  have GA : Fix A := by rw [a]; exact G1.ai
  refine ⟨13, rf4_8 GA, ok13 GA, vv (ln13 GA), fun C c => ?_⟩
  refine H C ?_ ?_
  · rw [c, a]; exact (T1.ai (q := 11) (by decide) (by decide) (by decide)).ai (q := 13) (by decide) (by decide) (by decide)
  · rw [c, a]; exact (F1.tr (TrF.ai (by decide) (by decide))).tr (TrF.ai (by decide) (by decide))
theorem S_ex {v : Nat} (F : Fix M) (hT : TrP M Θ) (H : ∀ M', TrP M' (exT Θ v).1 → TrF M M' → Q (some (.int (Int32.ofNat (exT Θ v).2))) M') : E (h + 2) mdX8_exit [.ref 4, .int (Int32.ofNat v)] M Q := by
  have m := ts_mk (k := 3) hT.one.1
  have m2 := m.2
  refine KX8_exit ?_
  unfold DX8_exit_0
  refine ⟨ok4 F, S_mk F hT (fun M1 T1 F1 _ => ⟨_, rfl, ?_⟩)⟩
  have l1 := T1.one
  have vv : ∀ {M : Mem} {q : Nat}, mL M q = 640 → vp_in (Int32.ofNat (mkT Θ 3).2) (mL M q) := fun e => by rw [e]; exact vp_of (by omega) (by decide)
  have G1 := F1.fix F
  rw [lt32 (by omega)]
  refine ⟨11, rf4_6 G1, ok11 G1, vv (ln11 G1), fun A a => ?_⟩
  have GA : Fix A := by rw [a]; exact G1.ai
  have eA : mAI A 11 (mkT Θ 3).2 = 2 + Int32.ofNat v := by rw [a]; exact mAI_own _ _ _ _
  refine ⟨13, rf4_8 GA, 11, rf4_6 GA, ok11 GA, vv (ln11 GA), ok13 GA, vv (ln13 GA), fun C c => ?_⟩
  rw [eA] at c
  refine H C ?_ ?_
  · rw [c, a]; exact (T1.ai (q := 11) (by decide) (by decide) (by decide)).ai (q := 13) (by decide) (by decide) (by decide)
  · rw [c, a]; exact (F1.tr (TrF.ai (by decide) (by decide))).tr (TrF.ai (by decide) (by decide))
theorem S_ch {l : Int32} {c d : Nat} (F : Fix M) (hT : TrP M Θ) (hc : c < Θ.1) (hd : d < Θ.1) (H : ∀ M', TrP M' (chT Θ l c d).1 → TrF M M' → Q (some (.int (Int32.ofNat (chT Θ l c d).2))) M') : E (h + 3) mdX8_choice [.ref 4, .int l, .int (Int32.ofNat c), .int (Int32.ofNat d)] M Q := by
  have m := ts_mk (k := 4) hT.one.1
  have m2 := m.2
  refine KX8_choice ?_
  unfold DX8_choice_0
  refine ⟨ok4 F, S_mk F hT (fun M1 T1 F1 _ => ⟨_, rfl, S_hg (h := h) (F1.fix F) T1 m.2 (Nat.lt_of_lt_of_le hc m.1) (fun M2 T2 F2 _ => ⟨rfl, S_hg (h := h) ((F1.tr F2).fix F) T2 (by rw [hgT_n.1]; exact m.2) (by rw [hgT_n.1]; exact Nat.lt_of_lt_of_le hd m.1) (fun M3 T3 F3 _ => ⟨rfl, ?_⟩)⟩)⟩)⟩
  have l1 := T1.one
  have G3 := ((F1.tr F2).tr F3).fix F
  rw [lt32 (by omega)]
  refine ⟨10, rf4_5 G3, ok10 G3, by rw [ln10 G3]; exact vp_of (by omega) (by decide), fun A a => H A ?_ ?_⟩
  · rw [a]; exact T3.ai (q := 10) (by decide) (by decide) (by decide)
  · rw [a]; exact ((F1.tr F2).tr F3).tr (TrF.ai (by decide) (by decide))
theorem S_su {l : Int32} {c : Nat} (F : Fix M) (hT : TrP M Θ) (hc : c < Θ.1) (H : ∀ M', TrP M' (suT Θ c l).1 → TrF M M' → Q (some (.int (Int32.ofNat (suT Θ c l).2))) M') : E (h + 4) mdX8_suspend [.ref 4, .int (Int32.ofNat c), .int l] M Q := by
  have m := ts_wr (k := 7) (c := c) hT.one.1
  refine KX8_suspend ?_
  unfold DX8_suspend_0
  refine ⟨ok4 F, S_wr F hT hc (fun M1 T1 F1 _ => ⟨_, rfl, ?_⟩)⟩
  have l1 := T1.one
  have m2 := m.2
  have G1 := F1.fix F
  rw [lt32 (by omega)]
  refine ⟨10, rf4_5 G1, ok10 G1, by rw [ln10 G1]; exact vp_of (by omega) (by decide), fun A a => H A ?_ ?_⟩
  · rw [a]; exact T1.ai (q := 10) (by decide) (by decide) (by decide)
  · rw [a]; exact F1.tr (TrF.ai (by decide) (by decide))
theorem S_ha (F : Fix M) (hT : TrP M Θ) (H : ∀ M', TrP M' (haT Θ).1 → TrF M M' → Q (some (.int (Int32.ofNat (haT Θ).2))) M') : E (h + 4) mdX8_halt [.ref 4] M Q := by
  refine KX8_halt ?_
  unfold DX8_halt_0
  exact ⟨ok4 F, S_pa (h := h + 1) F hT (fun M1 T1 F1 _ => ⟨_, rfl, S_wr (F1.fix F) T1 (ts_pa hT.one.1).2 (fun M2 T2 F2 _ => ⟨_, rfl, H M2 T2 (F1.tr F2)⟩)⟩)⟩
theorem S_st {v : Nat} (F : Fix M) (hT : TrP M Θ) (H : ∀ M', TrP M' (stT Θ v).1 → TrF M M' → Q (some (.int (Int32.ofNat (stT Θ v).2))) M') : E (h + 4) mdX8_sustain [.ref 4, .int (Int32.ofNat v)] M Q := by
  have a := ts_em (v := v) hT.one.1
  have b := ts_pa (a.one hT.one.1)
  refine KX8_sustain ?_
  unfold DX8_sustain_0
  refine ⟨ok4 F, S_em (h := h + 1) F hT (fun M1 T1 F1 _ => ⟨_, rfl, S_pa (h := h + 1) (F1.fix F) T1 (fun M2 T2 F2 _ => ⟨_, rfl, S_pr ((F1.tr F2).fix F) T2 (Nat.lt_of_lt_of_le a.2 b.1) b.2 (fun M3 T3 F3 _ => ⟨_, rfl, S_wr (((F1.tr F2).tr F3).fix F) T3 (ts_pr T2.one.1).2 (fun M4 T4 F4 _ => ⟨_, rfl, H M4 T4 (((F1.tr F2).tr F3).tr F4)⟩)⟩)⟩)⟩)⟩
def b32 (im : Bool) : Int32 := if im then 1 else 0
theorem S_wa {l : Int32} {im : Bool} (F : Fix M) (hT : TrP M Θ) (H : ∀ M', TrP M' (waT Θ l im).1 → TrF M M' → Q (some (.int (Int32.ofNat (waT Θ l im).2))) M') : E (h + 4) mdX8_watch [.ref 4, .int l, .int (b32 im)] M Q := by
  have p := ts_pa hT.one.1
  have e := ts_ex (v := 0) (p.one hT.one.1)
  have w1 := ts_w1 hT.one.1
  have w2 := ts_w2 (l := l) hT.one.1
  have m1 := ts_mk (k := 0) (e.one (p.one hT.one.1))
  have c2 := ts_ch (l := l) (c := (exT (paT Θ).1 0).2) (d := (wt1 Θ).2) (w1.one hT.one.1)
  refine KX8_watch ?_
  unfold DX8_watch_0 DX8_watch_48
  unfold waT wt3 at H
  refine ⟨ok4 F, S_pa (h := h + 1) F hT (fun M1 T1 F1 _ => ⟨_, rfl, S_ex (h := h + 1) (v := 0) (F1.fix F) T1 (fun M2 T2 F2 _ => ⟨_, rfl, S_mk (h := h + 2) ((F1.tr F2).fix F) T2 (fun M3 T3 F3 _ => ⟨_, rfl, S_ch (Θ := (wt1 Θ).1) (((F1.tr F2).tr F3).fix F) T3 (Nat.lt_of_lt_of_le e.2 m1.1) m1.2 (fun M4 T4 F4 _ => ⟨_, rfl, ?_⟩)⟩)⟩)⟩)⟩
  have G4 := (((F1.tr F2).tr F3).tr F4).fix F
  have hp2 : (paT Θ).2 < (wt2 Θ l).1.1 := Nat.lt_of_lt_of_le p.2 (Nat.le_trans (Nat.le_trans e.1 m1.1) c2.1)
  cases im with
  | false =>
    refine ⟨fun _ => S_pr (Θ := (wt2 Θ l).1) G4 T4 hp2 c2.2 (fun M5 T5 F5 _ => ⟨_, rfl, ok4 (F5.fix G4), S_wr (F5.fix G4) T5 (ts_pr T4.one.1).2 (fun M6 T6 F6 _ => ⟨_, rfl, ?_⟩)⟩), fun z => absurd rfl z⟩
    exact H M6 T6 (((((F1.tr F2).tr F3).tr F4).tr F5).tr F6)
  | true =>
    refine ⟨fun z => absurd z (by decide), fun _ => S_pr (Θ := (wt2 Θ l).1) G4 T4 c2.2 hp2 (fun M5 T5 F5 _ => ⟨_, rfl, ok4 (F5.fix G4), S_wr (F5.fix G4) T5 (ts_pr T4.one.1).2 (fun M6 T6 F6 _ => ⟨_, rfl, ?_⟩)⟩)⟩
    exact H M6 T6 (((((F1.tr F2).tr F3).tr F4).tr F5).tr F6)
theorem S_aw {l : Int32} {im : Bool} (F : Fix M) (hT : TrP M Θ) (H : ∀ M', TrP M' (awT Θ l im).1 → TrF M M' → Q (some (.int (Int32.ofNat (awT Θ l im).2))) M') : E (h + 5) mdX8_await [.ref 4, .int l, .int (b32 im)] M Q := by
  refine KX8_await ?_
  unfold DX8_await_0
  exact ⟨ok4 F, S_wa F hT (fun M1 T1 F1 _ => ⟨_, rfl, S_wr (h := h + 1) (F1.fix F) T1 (ts_wa hT.one.1).2 (fun M2 T2 F2 _ => ⟨_, rfl, H M2 T2 (F1.tr F2)⟩)⟩)⟩
theorem S_wk {l : Int32} {c : Nat} {im : Bool} (F : Fix M) (hT : TrP M Θ) (hc : c < Θ.1) (H : ∀ M', TrP M' (wkT Θ c l im).1 → TrF M M' → Q (some (.int (Int32.ofNat (wkT Θ c l im).2))) M') : E (h + 5) mdX8_weak [.ref 4, .int (Int32.ofNat c), .int l, .int (b32 im)] M Q := by
  have e := ts_ex (v := 0) hT.one.1
  have k1 := ts_pr (k := 5) (c := c) (d := (exT Θ 0).2) (e.one hT.one.1)
  refine KX8_weak ?_
  unfold DX8_weak_0
  refine ⟨ok4 F, S_ex (h := h + 2) (v := 0) F hT (fun M1 T1 F1 _ => ⟨_, rfl, S_pr (h := h + 1) (F1.fix F) T1 (Nat.lt_of_lt_of_le hc e.1) e.2 (fun M2 T2 F2 _ => ⟨_, rfl, S_wa (Θ := (wk1 Θ c).1) ((F1.tr F2).fix F) T2 (fun M3 T3 F3 _ => ⟨_, rfl, ?_⟩)⟩)⟩)⟩
  have w := ts_wa (l := l) (im := im) (k1.one (e.one hT.one.1))
  exact S_pr (h := h + 1) (Θ := (wk2 Θ c l im).1) (((F1.tr F2).tr F3).fix F) T3 (Nat.lt_of_lt_of_le k1.2 w.1) w.2 (fun M4 T4 F4 _ => ⟨_, rfl, S_wr (h := h + 1) ((((F1.tr F2).tr F3).tr F4).fix F) T4 (ts_pr T3.one.1).2 (fun M5 T5 F5 _ => ⟨_, rfl, H M5 T5 ((((F1.tr F2).tr F3).tr F4).tr F5)⟩)⟩)
theorem S_ab {l : Int32} {c : Nat} (F : Fix M) (hT : TrP M Θ) (hc : c < Θ.1) (H : ∀ M', TrP M' (abT Θ c l).1 → TrF M M' → Q (some (.int (Int32.ofNat (abT Θ c l).2))) M') : E (h + 6) mdX8_abort [.ref 4, .int (Int32.ofNat c), .int l] M Q := by
  refine KX8_abort ?_
  unfold DX8_abort_0
  exact ⟨ok4 F, S_su (h := h + 1) F hT hc (fun M1 T1 F1 _ => ⟨_, rfl, S_wk (im := false) (F1.fix F) T1 (ts_su hT.one.1).2 (fun M2 T2 F2 _ => ⟨_, rfl, H M2 T2 (F1.tr F2)⟩)⟩)⟩
theorem S_ceo {a : Nat} (F : Fix M) (hT : TrP M Θ) (ha : a < Θ.1) (H : Q (some (.int (if Θ.2.2 13 a &&& 1 = 0 then 0 else 1))) M) : E (h + 1) mdX8_canEndAtOnce [.ref 4, .int (Int32.ofNat a)] M Q := by
  have l1 := hT.one
  refine KX8_canEndAtOnce ?_
  unfold DX8_canEndAtOnce_0 DX8_canEndAtOnce_16
  rw [lt32 (by omega)]
  refine ⟨ok4 F, 13, rf4_8 F, ok13 F, by rw [ln13 F]; exact vp_of (by omega) (by decide), fun q => ⟨Or.inl rfl, ?_⟩, fun q => ⟨Or.inr rfl, ?_⟩⟩
  · rw [hT.2.2.2.1 13 (by decide) (by decide)] at q
    rw [if_pos q] at H; exact H
  · rw [hT.2.2.2.1 13 (by decide) (by decide)] at q
    rw [if_neg q] at H; exact H
end
end
section
/-! lists that grow: class objects, arrays of references -/
section
variable {h : Nat} {d : MD} {pc : Nat} {lv : List (Nat × Value)} {st : List Value} {M : Mem} {Q : Option Value → Mem → Prop}
theorem rowO_cell {s : State} {H : Heap} {D : va_G} {cy : Nat → ClassId} {ad : Nat → Nat} {a : Nat} (hK : va_K D vwCl (mT cy) s) (hP : va_P D vwCl (mW cy ad M) H) (ha : ok M a 24) : ∃ cell : Cell, H[ad a]? = some cell ∧ cell.vm.isStatics = false ∧ s.vm.findClass "[Ljava/lang/Object;" = some cell.cls := by
  have e := hP a _ ((mW_at ha.1).trans (by rw [cE_arrR ha.2 (by decide)]))
  exact ⟨_, e, rfl, va_nmO (hK.2 4 _ rfl).2 rfl⟩
theorem xt_getC {a : Nat} (hd : decode d.2.1 pc = .ok (.invokevirtual 86, 3)) (hc : d.1.cls = RJ7) (ha : ok M a 24) (hh : 1 ≤ h) (hcat : (st.map fun v => v.category).sum ≤ 8) (kk : T h d (pc + 3) lv (.ref (mBig + 11) :: st) M Q) : T h d pc lv (.ref a :: st) M Q := by
  obtain ⟨r, M', hv, hq⟩ := kk
  refine ⟨r, M', ⟨hv.1, fun hbg p l e s m args below meth c D cy A M0 ba sp0 H locs ls X q1 hP hD hS hl => ?_⟩, hq⟩
  have hts := X.2.2.2.2.2.2.2.1
  have hZ := X.2.2.2.2.2.2.2.2.2.2.2.1.2
  have w := hv.2 hbg p l e s m args below meth c D cy A M0 ba sp0 H locs ls X q1 hP hD hS hl
  rw [cv_sp] at w
  have hK := X.2.2.2.2.2.2.2.2.1
  exact va_getC (C := "[Ljava/lang/Object;") X.1 X.2.1 (by rw [X.2.2.1, hl.1]) X.2.2.2.1 (hts _ (by rw [hc]; exact tbL tbk_4 107 (by decide +kernel) rfl)) hZ.2.2.2.2.2.2.2.2.1.use (hts _ (tbL tbk_12 2 (by decide +kernel) rfl)) (hts _ (tbL tbk_4 108 (by decide +kernel) rfl)) (hts _ (tbL tbk_4 124 (by decide +kernel) rfl)) hZ.2.2.2.2.2.2.2.1 (rowO_cell hK hP ha) hh (by rw [cat_sum]; show _ + 14 ≤ 120 * h; omega) hd w
theorem xt_ldcO (hd : decode d.2.1 pc = .ok (.ldc 110, 2)) (hc : d.1.cls = RJ7) (kk : T h d (pc + 2) lv (.ref (mBig + 11) :: st) M Q) : T h d pc lv st M Q :=
  kk.rdS (fun p l e R s m args below meth c D cy ba sp A H locs cells slots Q ls hx hb hw hts hK hP hS hZ hG w => by
    rw [cv_sp] at w
    exact va_ldcM hx hb hw (hts _ (by rw [hc]; exact tbL tbk_4 128 (by decide +kernel) rfl)) hZ.2.2.2.2.2.2.2.1 hd w)
theorem xt_acmpN {a : Nat} {off : Int} {tgt : Nat} (hd : decode d.2.1 pc = .ok (.if_acmp .ne off, 3)) (ht : (pc : Int) + off = (tgt : Int)) (kk : T h d (pc + 3) lv st M Q) : T h d pc lv (.ref a :: .ref a :: st) M Q :=
  kk.go (fun p l e R s m args below meth c H locs cells slots Q ad ls hx hb hl0 hw ht2 k2 => lv_acmp_ne (rx := some (ad a)) (ry := some (ad a)) hx hb hd ht (fun q => absurd rfl q) (fun _ => k2 ls hl0))
theorem T.mkS {pc' n : Nat} {rest : List Value} {M2 : Mem} (k : T h d pc' lv (.ref (mN M) :: rest) M2 Q) (hE : mE M M2) (hn : mN M2 = mN M + 1) (hs : mS M2 = mS M + n) (hold : ∀ (cy : Nat → ClassId) (ad : Nat → Nat) (b : Nat), b < mN M → cE cy ad M2 b = cE cy ad M b)
    (step : ∀ (p : Program) (l : Launch) (e : Env) (R : Room) (s : State) (m : MethodId) (args : Array Value) (below : List Frame) (meth : Method) (c : Code) (D : va_G) (cy : Nat → ClassId) (ad : Nat → Nat) (sp : Nat → Nat) (A : Nat → Prop) (H : Heap) (locs : List Loc) (cells slots : Nat) (Q : State → Prop) (ls : Array Slot), p.tables.exec = Jvm.exec → c.code = d.2.1 → s.vm.findClass d.1.cls = some m.cls → (∀ w ∈ TB, w.before args s = true) → va_K D vwCl (mT cy) s → va_P D vwCl (mW cy ad M) H → va_D A (mW cy ad M) → va_S A s.heap H locs → (∀ q, s.heap.size ≤ q → A q) → SPH sp A s → cells + 1 ≤ R.cells → slots + n ≤ R.slots →
      (∀ (q : Nat) (H1 : Heap), va_P D vwCl (mW cy ad M ++ [(q, cE cy ad M2 (mN M))]) H1 → va_D A (mW cy ad M ++ [(q, cE cy ad M2 (mN M))]) → va_S A s.heap H1 locs → W p l e R s m args below meth c H1 locs (cells + 1) (slots + n) Q (F0 m pc' ls (.ref q :: rest.map (cv ad)))) → W p l e R s m args below meth c H locs cells slots Q (F0 m pc ls (st.map (cv ad)))) : T h d pc lv st M Q := by
  obtain ⟨r, M', hv, hq⟩ := k
  refine ⟨r, M', ⟨hE.tr hv.1, fun hb p l e s m args below meth c D cy A M0 ba sp H locs ls X h1 hP hD hS hl => ?_⟩, hq⟩
  have g1 := hv.1.1
  have g2 := hv.1.2.1
  rw [hn] at g1
  rw [hs] at g2
  refine step p l e _ s m args below meth c D cy (adf ba sp) sp A H locs _ _ _ ls X.1 X.2.1 X.2.2.2.1 X.2.2.2.2.2.2.2.1 X.2.2.2.2.2.2.2.2.1 hP hD hS X.2.2.2.2.2.2.2.2.2.1 X.2.2.2.2.2.2.2.2.2.2.2.1.2 (by show _ ≤ mN M' - mN M0; omega) (by show _ ≤ mS M' - mS M0; omega) (fun q H1 hP1 hD1 hS1 => ?_)
  refine W.bound (fun hz => ?_)
  have hsz := X.2.2.2.2.2.2.2.2.2.2.1
  have hqq : q = adf ba sp (mN M) := next_at (by omega) X.2.2.2.2.2.2.2.2.2.2.2.2.1 hP1 hD1 (by omega)
  subst hqq
  have e1 := mW_push (cy := cy) (ad := adf ba sp) (ad2 := adf ba sp) hn (fun b hb2 => ⟨rfl, hold cy (adf ba sp) b hb2⟩)
  rw [e1] at hP1 hD1
  have w := hv.2 hb p l e s m args below meth c D cy A M0 ba sp H1 locs ls X ⟨by omega, by omega⟩ hP1 hD1 hS1 hl
  rw [hn, hs, show mN M + 1 - mN M0 = mN M - mN M0 + 1 by omega, show mS M + n - mS M0 = mS M - mS M0 + n by omega] at w
  exact w
theorem cE_newR {cy : Nat → ClassId} {ad : Nat → Nat} {N : Nat} : cE cy ad (nwA M 24 N) (mN M) = .inl (cy 24, N, .inr (.inr (.inr (.inr (fun _ => none))))) := by
  rw [cE_arrR (M := nwA M 24 N) (a := mN M) (kd := 24) (va_up_self _ _ _) (by decide)]
  show Sum.inl (cy 24, va_up (mL M) (mN M) N (mN M), Sum.inr (Sum.inr (Sum.inr (Sum.inr (fun i => (va_up (mAR M) (mN M) (fun _ => none) (mN M) i).map ad))))) = _
  rw [va_up_self, va_up_self]
  rfl
theorem xt_newO {n : Int32} {N idx : Nat} (hd : decode d.2.1 pc = .ok (.anewarray idx, 3)) (hc : Cond.classLink d.1.cls idx "java/lang/Object" ∈ TB) (hn : ¬ n < 0) (hN : n.toNatClampNeg = N) (hby : N ≤ 100000000) (kk : T h d (pc + 3) lv (.ref (mN M) :: st) (nwA M 24 N) Q) : T h d pc lv (.int n :: st) M Q :=
  kk.mkS (n := N) mE_nwA rfl rfl (fun cy ad b hb => cE_nwA_old hb) (fun p l e R s m args below meth c D cy ad sp A H locs cells slots Q ls hx hb hw2 hts hK hP hD hS hA hZ hcl hsl w => by
    refine va_newq (C := "java/lang/Object") hx hb hw2 (hts _ hc) hZ.2.2.2.2.2.2.2.2.2.1 hK hP hD hS hA hn hN (by omega) hcl hsl hd (fun q cA H1 hK1 hP1 hD1 hS1 => ?_)
    have g1 := (hK1.2 (mT cy).length (cA, .object "java/lang/Object") (by simp)).2
    have g2 := (hK.2 4 _ rfl).2
    have g3 : cA = cy 24 := Option.some.inj ((va_nmO g1 rfl).symm.trans (va_nmO g2 rfl))
    subst g3
    rw [← cE_newR (M := M) (ad := ad)] at hP1 hD1
    exact w q H1 hP1 hD1 hS1)
/-- what a list may hold: objects of one class, or cached Integers -/
def ELk (ci : Nat) : Prop := ci = 0 ∨ ci = 3 ∨ ci = 4 ∨ ci = 5
def ELc (M : Mem) (ci v : Nat) : Prop := ok M v ci ∨ (ci = 0 ∧ ∃ k, k < 256 ∧ v = mBig + (1000 + k))
theorem ELk.lt {ci : Nat} (h : ELk ci) : ci < 14 := by rcases h with rfl | rfl | rfl | rfl <;> decide
theorem ELk.cast {ci : Nat} (h : ELk ci) : Cond.castable (cls ci).1 "java/lang/Object" ∈ NWL := by
  rcases h with rfl | rfl | rfl | rfl
  · exact nwL tbk_12 14 (by decide +kernel) rfl
  · exact nwL tbk_12 10 (by decide +kernel) rfl
  · exact nwL tbk_12 15 (by decide +kernel) rfl
  · exact nwL tbk_12 13 (by decide +kernel) rfl
theorem el_cell {s : State} {H : Heap} {D : va_G} {cy : Nat → ClassId} {ba ci v : Nat} {sp : Nat → Nat} {A : Nat → Prop} {locs : List Loc} (hK : va_K D vwCl (mT cy) s) (hP : va_P D vwCl (mW cy (adf ba sp) M) H) (hS : va_S A s.heap H locs) (hZ : SPH sp A s) (hk : ELk ci) (hv : ELc M ci v) : ∃ cell : Cell, H[adf ba sp v]? = some cell ∧ cell.vm.isStatics = false ∧ s.vm.findClass (cls ci).1 = some cell.cls := by
  rcases hv with hv | ⟨rfl, k, hk2, rfl⟩
  · have hlt := hk.lt
    have hc1 : vwCl[ci]? = some (cls ci) := by
      unfold cls
      rw [List.getD_eq_getElem?_getD]
      have : ci < vwCl.length := hlt
      rw [List.getElem?_eq_getElem this]; rfl
    exact va_recv (s := s) (H := H) hK hP hc1 ((mW_at hv.1).trans (by rw [cE_obj hv.2 (by omega)]))
  · rw [adf_sp]
    exact va_O_now (hZ.2.2.2.2.2.1.2.2.2.1 k hk2) hS
theorem cE_wAR {cy : Nat → ClassId} {ad : Nat → Nat} {a i b : Nat} {x : Option Nat} (hb : b ≠ a) : cE cy ad (wAR M a i x) b = cE cy ad M b := by
  unfold cE
  rw [show mAR (wAR M a i x) b = mAR M b from up2_row hb]
  rfl
theorem xt_aastO {a v ci : Nat} {i : Int32} (hd : decode d.2.1 pc = .ok (.aastore, 1)) (ha : ok M a 24) (hi : vp_in i (mL M a)) (hk : ELk ci) (hv : ELc M ci v) (kk : T h d (pc + 1) lv st (wAR M a i.toNatClampNeg (some v)) Q) : T h d pc lv (.ref v :: .int i :: .ref a :: st) M Q := by
  obtain ⟨r, M', hw, hq⟩ := kk
  refine ⟨r, M', ⟨hw.1, fun hbg p l e s m args below meth c D cy A M0 ba sp0 H locs ls X q1 hP hD hS hl => ?_⟩, hq⟩
  have e3 : (fun j => (mAR (wAR M a i.toNatClampNeg (some v)) a j).map (adf ba sp0)) = va_up (fun j => (mAR M a j).map (adf ba sp0)) i.toNatClampNeg (some (adf ba sp0 v)) := by
    funext j
    show (up2 (mAR M) a i.toNatClampNeg (some v) a j).map (adf ba sp0) = _
    unfold up2 va_up
    by_cases z : j = i.toNatClampNeg
    · rw [if_pos ⟨rfl, z⟩, if_pos z]; rfl
    · rw [if_neg (fun y => z y.2), if_neg z]
  have e2 : (mW cy (adf ba sp0) M).set a (adf ba sp0 a, .inl (cy 24, mL M a, .inr (.inr (.inr (.inr (va_up (fun j => (mAR M a j).map (adf ba sp0)) i.toNatClampNeg (some (adf ba sp0 v)))))))) = mW cy (adf ba sp0) (wAR M a i.toNatClampNeg (some v)) := by
    rw [← mW_set (M := M) (M2 := wAR M a i.toNatClampNeg (some v)) rfl (fun c _ hc2 => cE_wAR hc2), cE_arrR (M := wAR M a i.toNatClampNeg (some v)) (kd := 24) ha.2 (by decide), e3]
    rfl
  have hK := X.2.2.2.2.2.2.2.2.1
  have hZ := X.2.2.2.2.2.2.2.2.2.2.2.1.2
  have hnw := X.2.2.2.2.2.2.2.2.2.2.2.1.1
  refine vb_astq X.1 X.2.1 hK hP hD hS a 4 (E := "java/lang/Object") (C := (cls ci).1) ((mW_at ha.1).trans (by rw [cE_arrR ha.2 (by decide)])) rfl (el_cell hK hP hS hZ hk hv) (fun comp c0 h1 h2 => vb_asgC (hnw _ hk.cast) comp c0 h1 h2) hi hd (fun H1 locs1 hP1 hD1 hS1 => ?_)
  rw [e2] at hP1 hD1
  exact hw.2 hbg p l e s m args below meth c D cy A M0 ba sp0 H1 locs1 ls X q1 hP1 hD1 hS1 hl
theorem xt_aastN {a : Nat} {i : Int32} (hd : decode d.2.1 pc = .ok (.aastore, 1)) (ha : ok M a 24) (hi : vp_in i (mL M a)) (kk : T h d (pc + 1) lv st (wAR M a i.toNatClampNeg none) Q) : T h d pc lv (.null :: .int i :: .ref a :: st) M Q := by
  obtain ⟨r, M', hw, hq⟩ := kk
  refine ⟨r, M', ⟨hw.1, fun hbg p l e s m args below meth c D cy A M0 ba sp0 H locs ls X q1 hP hD hS hl => ?_⟩, hq⟩
  have e3 : (fun j => (mAR (wAR M a i.toNatClampNeg none) a j).map (adf ba sp0)) = va_up (fun j => (mAR M a j).map (adf ba sp0)) i.toNatClampNeg none := by
    funext j
    show (up2 (mAR M) a i.toNatClampNeg none a j).map (adf ba sp0) = _
    unfold up2 va_up
    by_cases z : j = i.toNatClampNeg
    · rw [if_pos ⟨rfl, z⟩, if_pos z]; rfl
    · rw [if_neg (fun y => z y.2), if_neg z]
  have e2 : (mW cy (adf ba sp0) M).set a (adf ba sp0 a, .inl (cy 24, mL M a, .inr (.inr (.inr (.inr (va_up (fun j => (mAR M a j).map (adf ba sp0)) i.toNatClampNeg none)))))) = mW cy (adf ba sp0) (wAR M a i.toNatClampNeg none) := by
    rw [← mW_set (M := M) (M2 := wAR M a i.toNatClampNeg none) rfl (fun c _ hc2 => cE_wAR hc2), cE_arrR (M := wAR M a i.toNatClampNeg none) (kd := 24) ha.2 (by decide), e3]
    rfl
  have hK := X.2.2.2.2.2.2.2.2.1
  refine va_astqN X.1 X.2.1 hK hP hD hS a 4 (C := "java/lang/Object") ((mW_at ha.1).trans (by rw [cE_arrR ha.2 (by decide)])) rfl hi hd (fun H1 locs1 hP1 hD1 hS1 => ?_)
  rw [e2] at hP1 hD1
  exact hw.2 hbg p l e s m args below meth c D cy A M0 ba sp0 H1 locs1 ls X q1 hP1 hD1 hS1 hl
def wCr (M : Mem) (b a sp dp n : Nat) : Mem := (mN M, mS M, mK M, mI M, mJ M, mR M, mL M, mAI M, mAJ M, va_up (mAR M) a (va_cpy (mAR M b) (mAR M a) sp dp n))
theorem cE_wCr {cy : Nat → ClassId} {ad : Nat → Nat} {b a sp dp n c : Nat} (hc : c ≠ a) : cE cy ad (wCr M b a sp dp n) c = cE cy ad M c := by
  unfold cE
  rw [show mAR (wCr M b a sp dp n) c = mAR M c from va_up_ne _ _ hc]
  rfl
theorem xt_cpyR {a b idx ci : Nat} {sp dp n : Int32} (hd : decode d.2.1 pc = .ok (.invokestatic idx, 3)) (hm : cpw d idx) (hob : ok M b 24) (hoa : ok M a 24) (h1 : ¬ sp < 0) (h2 : ¬ dp < 0) (h3 : ¬ n < 0) (h4 : sp.toNatClampNeg + n.toNatClampNeg ≤ mL M b) (h5 : dp.toNatClampNeg + n.toNatClampNeg ≤ mL M a) (hk : ELk ci) (hel : ∀ j, j < n.toNatClampNeg → ∀ y, mAR M b (sp.toNatClampNeg + j) = some y → ELc M ci y) (hh : 1 ≤ h) (hc : (st.map fun v => v.category).sum ≤ 8) (kk : T h d (pc + 3) lv st (wCr M b a sp.toNatClampNeg dp.toNatClampNeg n.toNatClampNeg) Q) : T h d pc lv (.int n :: .int dp :: .ref a :: .int sp :: .ref b :: st) M Q := by
  obtain ⟨r, M', hv, hq⟩ := kk
  refine ⟨r, M', ⟨hv.1, fun hbg p l e s m args below meth c D cy A M0 ba sp0 H locs ls X q1 hP hD hS hl => ?_⟩, hq⟩
  have e3 : (fun j => (mAR (wCr M b a sp.toNatClampNeg dp.toNatClampNeg n.toNatClampNeg) a j).map (adf ba sp0)) = va_cpy (fun j => (mAR M b j).map (adf ba sp0)) (fun j => (mAR M a j).map (adf ba sp0)) sp.toNatClampNeg dp.toNatClampNeg n.toNatClampNeg := by
    funext j
    rw [show mAR (wCr M b a sp.toNatClampNeg dp.toNatClampNeg n.toNatClampNeg) a = va_cpy (mAR M b) (mAR M a) sp.toNatClampNeg dp.toNatClampNeg n.toNatClampNeg from va_up_self _ _ _]
    unfold va_cpy
    split <;> rfl
  have e2 : (mW cy (adf ba sp0) M).set a (adf ba sp0 a, .inl (cy 24, mL M a, .inr (.inr (.inr (.inr (va_cpy (fun j => (mAR M b j).map (adf ba sp0)) (fun j => (mAR M a j).map (adf ba sp0)) sp.toNatClampNeg dp.toNatClampNeg n.toNatClampNeg)))))) = mW cy (adf ba sp0) (wCr M b a sp.toNatClampNeg dp.toNatClampNeg n.toNatClampNeg) := by
    rw [← mW_set (M := M) (M2 := wCr M b a sp.toNatClampNeg dp.toNatClampNeg n.toNatClampNeg) rfl (fun c _ hc2 => cE_wCr hc2), cE_arrR (M := wCr M b a sp.toNatClampNeg dp.toNatClampNeg n.toNatClampNeg) (kd := 24) hoa.2 (by decide), e3]
    rfl
  have hts := X.2.2.2.2.2.2.2.1
  have hK := X.2.2.2.2.2.2.2.2.1
  have hZ := X.2.2.2.2.2.2.2.2.2.2.2.1.2
  have hnw := X.2.2.2.2.2.2.2.2.2.2.2.1.1
  refine va_copyq (C := (cls ci).1) (E0 := "java/lang/Object") (E1 := "java/lang/Object") X.1 X.2.1 (by rw [X.2.2.1, hl.1]) X.2.2.2.1 (hts _ hm.1) (hts _ hm.2.1) (hts _ hm.2.2.1) (hts _ hm.2.2.2) hK hP hD hS b a 4 4 ((mW_at hob.1).trans (by rw [cE_arrR hob.2 (by decide)])) ((mW_at hoa.1).trans (by rw [cE_arrR hoa.2 (by decide)])) rfl rfl h1 h2 h3 h4 h5 (fun j hj y hy => ?_) (fun comp c0 z1 z2 => vb_asgC (hnw _ hk.cast) comp c0 z1 z2) hh (by rw [cat_sum]; show _ + (7 + 11) ≤ 120 * h; omega) hd (fun H1 locs1 hP1 hD1 hS1 => ?_)
  · cases hz : mAR M b (sp.toNatClampNeg + j) with
    | none => rw [hz] at hy; cases hy
    | some z =>
      rw [hz] at hy
      cases hy
      exact el_cell hK hP hS hZ hk (hel j hj z hz)
  · rw [e2] at hP1 hD1
    exact hv.2 hbg p l e s m args below meth c D cy A M0 ba sp0 H1 locs1 ls X q1 hP1 hD1 hS1 hl
end
end
section
/-! ArrayList: add, get, size -/
theorem shr1 {L : Nat} (h : L < 2147483648) : Int32.ofNat L >>> ((1 : Int32) &&& 31) = Int32.ofNat (L / 2) := by
  refine Int32.toInt_inj.mp ?_
  rw [ti32 (n := L / 2) (by omega)]
  show (Int32.ofNat L >>> ((1 : Int32) &&& 31)).toBitVec.toInt = _
  rw [Int32.toBitVec_shiftRight, show BitVec.smod ((1 : Int32) &&& 31).toBitVec 32 = 1#32 by decide]
  show ((Int32.ofNat L).toBitVec.sshiftRight 1).toInt = _
  rw [BitVec.toInt_sshiftRight]
  have e : (Int32.ofNat L).toBitVec.toInt = (L : Int) := ti32 h
  rw [e, Int.shiftRight_eq_div_pow]
  omega
/-- the length that follows L -/
def gN (L : Nat) : Nat := L + (if 1 < L / 2 then L / 2 else 1)
theorem gN_b {L : Nat} : L < gN L ∧ gN L ≤ 2 * L + 10 ∧ 4 * L ≤ 3 * gN L := by unfold gN; split <;> omega
theorem ELc.e {M M' : Mem} {ci v : Nat} (h : ELc M ci v) (k : mE M M') : ELc M' ci v := by
  rcases h with h | h
  · exact Or.inl (ok_E h k)
  · exact Or.inr h
/-- a list: cell a, its row b, what it holds -/
def ALp (M : Mem) (a b ci : Nat) (l : List Nat) : Prop := ok M a 1 ∧ mI M a 2 = Int32.ofNat l.length ∧ l.length ≤ 100000 ∧ (∀ v ∈ l, ELc M ci v) ∧ mR M a 1 = some b ∧ ((b = mBig + 5 ∧ l = []) ∨ (ok M b 24 ∧ l.length ≤ mL M b ∧ 1 ≤ mL M b ∧ mL M b ≤ 1000000 ∧ ∀ i, i < l.length → mAR M b i = some (l.getD i 0)))
/-- the length of a list's row -/
def Lb (M : Mem) (b : Nat) : Nat := if b < mBig then mL M b else 0
def ALF (M M' : Mem) (a b b' n : Nat) : Prop := fr (fun c => c = a ∨ (c = b ∧ mK M c = 24)) M M' ∧ (∀ f, f ≠ 0 → f ≠ 2 → mI M' a f = mI M a f) ∧ mJ M' a = mJ M a ∧ (∀ f, f ≠ 1 → mR M' a f = mR M a f) ∧ (b' = b ∨ b' = mN M) ∧ mN M' ≤ mN M + 1 ∧ mS M' ≤ mS M + (10 + 2 * n) ∧ (mN M < mBig → mS M' + 4 * Lb M b ≤ mS M + 4 * Lb M' b' ∧ (Lb M b ≤ 10 + 2 * n → Lb M' b' ≤ 12 + 2 * n))
def Gro (M M1 : Mem) (a N : Nat) (l : List Nat) : Prop := fr (fun c => c = a) M M1 ∧ mI M1 a = mI M a ∧ mJ M1 a = mJ M a ∧ (∀ f, f ≠ 1 → mR M1 a f = mR M a f) ∧ mR M1 a 1 = some (mN M) ∧ ok M1 (mN M) 24 ∧ mL M1 (mN M) = N ∧ (l.length < N ∧ N ≤ 2 * l.length + 10 ∧ 4 * l.length ≤ 3 * N) ∧ (∀ j, j < l.length → mAR M1 (mN M) j = some (l.getD j 0)) ∧ mN M1 = mN M + 1 ∧ mS M1 = mS M + N
def Ful (M : Mem) (b : Nat) (l : List Nat) : Prop := (b = mBig + 5 ∧ l = []) ∨ (ok M b 24 ∧ mL M b = l.length ∧ 1 ≤ l.length ∧ ∀ i, i < l.length → mAR M b i = some (l.getD i 0))
section
variable {h : Nat} {M : Mem} {Q : Option Value → Mem → Prop} {a b ci v : Nat} {l : List Nat}
theorem S_newLen {L : Nat} (h0 : 1 ≤ L) (h1 : L ≤ 1000000) (H : Q (some (.int (Int32.ofNat (gN L)))) M) : E (h + 1) mdJ8_newLength_cabcc [.int (Int32.ofNat L), .int 1, .int (Int32.ofNat (L / 2))] M Q := by
  have hb := gN_b (L := L)
  have e : Int32.ofNat L + (if (1 : Int32) < Int32.ofNat (L / 2) then Int32.ofNat (L / 2) else 1) = Int32.ofNat (gN L) := by
    have c : ((1 : Int32) < Int32.ofNat (L / 2)) ↔ 1 < L / 2 := ltn32 (a := 1) (by decide) (by omega)
    unfold gN
    by_cases q : 1 < L / 2
    · rw [if_pos (c.mpr q), if_pos q, add32]
    · rw [if_neg (fun z => q (c.mp z)), if_neg q, succ32]
  refine E.of (by decide) (Nat.le_of_ble_eq_true rfl) (fun _ _ _ => trivial) ?_
  show T _ _ 0 [(0, .int (Int32.ofNat L)), (1, .int 1), (2, .int (Int32.ofNat (L / 2)))] [] M _
  refine xt_iload_n (j := 0) dJ8_newLength_cabcc_0 rfl rfl ?_
  refine xt_iload_n (j := 1) dJ8_newLength_cabcc_1 rfl rfl ?_
  refine xt_iload_n (j := 2) dJ8_newLength_cabcc_2 rfl rfl ?_
  refine xt_mmax dJ8_newLength_cabcc_3 (mmJ8_194 rfl) (by omega) (by simp [Value.category]) ?_
  refine xt_iadd dJ8_newLength_cabcc_6 ?_
  rw [e]
  refine xt_istore_n (i := 3) (lv' := [(3, .int (Int32.ofNat (gN L))), (0, .int (Int32.ofNat L)), (1, .int 1), (2, .int (Int32.ofNat (L / 2)))]) dJ8_newLength_cabcc_7 rfl (by show (_ : Nat) < 4; decide) rfl ?_
  refine xt_iconst (v := 0) dJ8_newLength_cabcc_8 (by decide) ?_
  refine xt_iload_n (j := 0) dJ8_newLength_cabcc_9 rfl rfl ?_
  refine xt_icmp_ge (tgt := 21) dJ8_newLength_cabcc_10 (by decide) (fun hc => ?_) (fun hc => ?_)
  · have := (le32 (a := gN L) (b := 0) (by omega) (by decide)).mp hc
    omega
  refine xt_iload_n (j := 0) dJ8_newLength_cabcc_13 rfl rfl ?_
  refine xt_ldc dJ8_newLength_cabcc_14 (ctJ8_200 rfl) ?_
  refine xt_icmp_gt (tgt := 21) dJ8_newLength_cabcc_16 (by decide) (fun hc => ?_) (fun hc => ?_)
  · have := (ltn32 (a := 2147483639) (b := gN L) (by decide) (by omega)).mp hc
    omega
  refine xt_iload_n (j := 0) dJ8_newLength_cabcc_19 rfl rfl ?_
  exact xt_ireturn dJ8_newLength_cabcc_20 rfl H
theorem clJ7_2 : Cond.classLink mdJ7_copyOf_6403c.1.cls 2 "java/lang/Object" ∈ TB := tbL tbk_4 130 (by decide +kernel) rfl
theorem clJx_7 : Cond.classLink mdJx4a65c_grow_92f84.1.cls 7 "java/lang/Object" ∈ TB := tbL tbk_4 132 (by decide +kernel) rfl
theorem S_copyO {N L : Nat} (hb : ok M b 24) (hL : mL M b = L) (hlt : L < N) (hN : N ≤ 10000000) (hk : ELk ci) (hel : ∀ j, j < L → ∀ y, mAR M b j = some y → ELc M ci y) (H : Q (some (.ref (mN M))) (wCr (nwA M 24 N) b (mN M) 0 0 L)) : E (h + 1) mdJ7_copyOf_6403c [.ref b, .int (Int32.ofNat N), .ref (mBig + 11)] M Q := by
  have hM : ok (nwA M 24 N) b 24 := ok_nwA hb
  have hL1 : mL (nwA M 24 N) b = L := (va_up_ne _ _ (Nat.ne_of_lt hb.1)).trans hL
  have hL2 : mL (nwA M 24 N) (mN M) = N := va_up_self _ _ _
  refine E.of (by decide) (Nat.le_of_ble_eq_true rfl) (fun _ _ _ => trivial) ?_
  show T _ _ 0 [(0, .ref b), (1, .int (Int32.ofNat N)), (2, .ref (mBig + 11))] [] M _
  refine xt_aload_n (j := 2) dJ7_copyOf_6403c_0 rfl rfl ?_
  refine xt_ldcO dJ7_copyOf_6403c_1 rfl ?_
  refine xt_acmpN (tgt := 13) dJ7_copyOf_6403c_3 (by decide) ?_
  refine xt_iload_n (j := 1) dJ7_copyOf_6403c_6 rfl rfl ?_
  refine xt_newO (N := N) dJ7_copyOf_6403c_7 clJ7_2 (by rw [show (0 : Int32) = Int32.ofNat 0 from rfl, ltn32 (by omega) (by decide)]; omega) (lt32 (by omega)) (by omega) ?_
  refine xt_goto (tgt := 24) dJ7_copyOf_6403c_10 (by decide) ?_
  refine xt_astore_n (i := 3) (lv' := [(3, .ref (mN M)), (0, .ref b), (1, .int (Int32.ofNat N)), (2, .ref (mBig + 11))]) dJ7_copyOf_6403c_24 rfl (by show (_ : Nat) < 4; decide) rfl ?_
  refine xt_aload_n (j := 1) dJ7_copyOf_6403c_25 rfl rfl ?_
  refine xt_iconst (v := 0) dJ7_copyOf_6403c_26 (by decide) ?_
  refine xt_aload_n (j := 0) dJ7_copyOf_6403c_27 rfl rfl ?_
  refine xt_iconst (v := 0) dJ7_copyOf_6403c_28 (by decide) ?_
  refine xt_aload_n (j := 1) dJ7_copyOf_6403c_29 rfl rfl ?_
  refine xt_alen dJ7_copyOf_6403c_30 hM.1 (Or.inr (Or.inr (Or.inr (Or.inr (Or.inl hM.2))))) ?_
  refine xt_iload_n (j := 2) dJ7_copyOf_6403c_31 rfl rfl ?_
  refine xt_mmin dJ7_copyOf_6403c_32 (mmJ7_304 rfl) (by omega) (by simp [Value.category]) ?_
  rw [hL1, if_neg (by rw [ltn32 (by omega) (by omega)]; omega)]
  have e0 : (0 : Int32).toNatClampNeg = 0 := by decide
  have e1 : (Int32.ofNat L).toNatClampNeg = L := lt32 (by omega)
  refine xt_cpyR (ci := ci) dJ7_copyOf_6403c_35 (cpJ7_150 rfl) hM ok_newA (by decide) (by decide) (by rw [show (0 : Int32) = Int32.ofNat 0 from rfl, ltn32 (by omega) (by decide)]; omega) (by rw [e0, e1, hL1]; omega) (by rw [e0, e1, hL2]; omega) hk (fun j hj y hy => ?_) (by omega) (by decide) ?_
  · rw [e1] at hj
    rw [e0, Nat.zero_add] at hy
    have e2 : mAR (nwA M 24 N) b j = mAR M b j := by show va_up (mAR M) (mN M) _ b j = _; rw [va_up_ne _ _ (Nat.ne_of_lt hb.1)]
    exact (hel j hj y (e2.symm.trans hy)).e mE_nwA
  · rw [e0, e1]
    refine xt_aload_n (j := 0) dJ7_copyOf_6403c_38 rfl rfl ?_
    exact xt_areturn (rt := .array (.object "java/lang/Object")) dJ7_copyOf_6403c_39 rfl (Or.inr ⟨_, rfl⟩) H
theorem S_copyO2 {N L : Nat} (hb : ok M b 24) (hL : mL M b = L) (hlt : L < N) (hN : N ≤ 10000000) (hk : ELk ci) (hel : ∀ j, j < L → ∀ y, mAR M b j = some y → ELc M ci y) (H : Q (some (.ref (mN M))) (wCr (nwA M 24 N) b (mN M) 0 0 L)) : E (h + 2) mdJ7_copyOf_1904c [.ref b, .int (Int32.ofNat N)] M Q := by
  refine E.of (by decide) (Nat.le_of_ble_eq_true rfl) (fun _ _ _ => trivial) ?_
  show T _ _ 0 [(0, .ref b), (1, .int (Int32.ofNat N))] [] M _
  refine xt_aload_n (j := 0) dJ7_copyOf_1904c_0 rfl rfl ?_
  refine xt_iload_n (j := 1) dJ7_copyOf_1904c_1 rfl rfl ?_
  refine xt_aload_n (j := 0) dJ7_copyOf_1904c_2 rfl rfl ?_
  refine xt_getC dJ7_copyOf_1904c_3 rfl hb (by omega) (by simp [Value.category]) ?_
  refine xt_callS (h2 := h + 1) (as := [.ref b, .int (Int32.ofNat N), .ref (mBig + 11)]) (st := []) dJ7_copyOf_1904c_6 (mlJ7_300 rfl) rfl (by decide) (Nat.le_refl _) (S_copyO (Q := fun r M1 => r = some (.ref (mN M)) ∧ M1 = wCr (nwA M 24 N) b (mN M) 0 0 L) hb hL hlt hN hk hel ⟨rfl, rfl⟩) (fun r M1 hp hE => ?_)
  obtain ⟨rfl, rfl⟩ := hp
  show T _ _ _ _ [.ref (mN M)] _ _
  exact xt_areturn (rt := .array (.object "java/lang/Object")) dJ7_copyOf_1904c_9 rfl (Or.inr ⟨_, rfl⟩) H
theorem S_growI (hA : ALp M a b ci l) (hfull : Ful M b l) (hk : ELk ci) (H : ∀ M1 N, Gro M M1 a N l → Q (some (.ref (mN M))) M1) : E (h + 3) mdJx4a65c_grow_92f84 [.ref a, .int (Int32.ofNat (l.length + 1))] M Q := by
  obtain ⟨ha, hs, hl, hel, hr, -⟩ := hA
  have hne : mN M ≠ a := fun z => Nat.lt_irrefl _ (z ▸ ha.1)
  refine E.of (by decide) (Nat.le_of_ble_eq_true rfl) (fun _ _ _ => trivial) ?_
  show T _ _ 0 [(0, .ref a), (1, .int (Int32.ofNat (l.length + 1)))] [] M _
  refine xt_aload_n (j := 0) dJx4a65c_grow_92f84_0 rfl rfl ?_
  refine xt_getR (b := b) dJx4a65c_grow_92f84_1 (flJx4a65c_9 rfl) ft_1_1 ha.1 ha.2 hr ?_
  rcases hfull with ⟨rfl, rfl⟩ | ⟨ob, hL, hpos, hg⟩
  · refine xt_spEl dJx4a65c_grow_92f84_4 ?_
    refine xt_istore_n (i := 2) (lv' := [(2, .int 0), (0, .ref a), (1, .int (Int32.ofNat (([] : List Nat).length + 1)))]) dJx4a65c_grow_92f84_5 rfl (by show (_ : Nat) < 4; decide) rfl ?_
    refine xt_iload_n (j := 0) dJx4a65c_grow_92f84_6 rfl rfl ?_
    refine xt_if_gt (tgt := 20) dJx4a65c_grow_92f84_7 (by decide) (fun hc => absurd hc (by decide)) (fun _ => ?_)
    refine xt_aload_n (j := 1) dJx4a65c_grow_92f84_10 rfl rfl ?_
    refine xt_getR (b := mBig + 5) dJx4a65c_grow_92f84_11 (flJx4a65c_9 rfl) ft_1_1 ha.1 ha.2 hr ?_
    refine xt_gsE dJx4a65c_grow_92f84_14 wJx_39 ?_
    refine xt_acmpS (tgt := 45) dJx4a65c_grow_92f84_17 (by decide) ?_
    refine xt_aload_n (j := 1) dJx4a65c_grow_92f84_45 rfl rfl ?_
    refine xt_bipush (v := 10) dJx4a65c_grow_92f84_46 (by decide) ?_
    refine xt_iload_n (j := 2) dJx4a65c_grow_92f84_48 rfl rfl ?_
    refine xt_mmax dJx4a65c_grow_92f84_49 (mmJx4a65c_79 rfl) (by omega) (by simp [Value.category]) ?_
    rw [show (if (10 : Int32) < Int32.ofNat (([] : List Nat).length + 1) then Int32.ofNat (([] : List Nat).length + 1) else 10) = 10 by decide]
    refine xt_newO (N := 10) dJx4a65c_grow_92f84_52 clJx_7 (by decide) (by decide) (by decide) ?_
    refine xt_dup_x1 dJx4a65c_grow_92f84_55 rfl rfl ?_
    have ha1 : ok (nwA M 24 10) a 1 := ok_nwA ha
    refine xt_putR dJx4a65c_grow_92f84_56 (flJx4a65c_9 rfl) ft_1_1 rfl ha1.1 ha1.2 ?_
    refine xt_areturn (rt := .array (.object "java/lang/Object")) dJx4a65c_grow_92f84_59 rfl (Or.inr ⟨_, rfl⟩) (H _ 10 ?_)
    refine ⟨⟨mE_nwA.tr mE_wR, fun c hc hn => ⟨rfl, rfl, up2_row hn, va_up_ne _ _ (Nat.ne_of_lt hc), va_up_ne _ _ (Nat.ne_of_lt hc), va_up_ne _ _ (Nat.ne_of_lt hc)⟩⟩, rfl, rfl, fun f hf => up2_ne (fun z => hf z.2), up2_eq, (ok_newA : ok (nwA M 24 10) (mN M) 24), va_up_self _ _ _, ⟨by decide, by decide, by decide⟩, fun j hj => absurd hj (Nat.not_lt_zero _), rfl, rfl⟩
  · have gb := gN_b (L := l.length)
    refine xt_alen dJx4a65c_grow_92f84_4 ob.1 (Or.inr (Or.inr (Or.inr (Or.inr (Or.inl ob.2))))) ?_
    rw [hL]
    refine xt_istore_n (i := 2) (lv' := [(2, .int (Int32.ofNat l.length)), (0, .ref a), (1, .int (Int32.ofNat (l.length + 1)))]) dJx4a65c_grow_92f84_5 rfl (by show (_ : Nat) < 4; decide) rfl ?_
    refine xt_iload_n (j := 0) dJx4a65c_grow_92f84_6 rfl rfl ?_
    refine xt_if_gt (tgt := 20) dJx4a65c_grow_92f84_7 (by decide) (fun _ => ?_) (fun hc => absurd ((ltn32 (a := 0) (by decide) (by omega)).mpr (by omega)) hc)
    refine xt_iload_n (j := 0) dJx4a65c_grow_92f84_20 rfl rfl ?_
    refine xt_iload_n (j := 2) dJx4a65c_grow_92f84_21 rfl rfl ?_
    refine xt_iload_n (j := 0) dJx4a65c_grow_92f84_22 rfl rfl ?_
    refine xt_isub dJx4a65c_grow_92f84_23 ?_
    rw [sub32 (by omega) (by omega), show l.length + 1 - l.length = 1 by omega]
    refine xt_iload_n (j := 0) dJx4a65c_grow_92f84_24 rfl rfl ?_
    refine xt_iconst (v := 1) dJx4a65c_grow_92f84_25 (by decide) ?_
    refine xt_ishr dJx4a65c_grow_92f84_26 ?_
    rw [shr1 (by omega)]
    refine xt_callS (h2 := h + 1) (as := [.int (Int32.ofNat l.length), .int (Int32.ofNat 1), .int (Int32.ofNat (l.length / 2))]) (st := []) dJx4a65c_grow_92f84_27 (mlJx4a65c_73 rfl) rfl (by decide) (by omega) (S_newLen (Q := fun r M1 => r = some (.int (Int32.ofNat (gN l.length))) ∧ M1 = M) (by omega) (by omega) ⟨rfl, rfl⟩) (fun r M1 hp hE => ?_)
    obtain ⟨rfl, rfl⟩ := hp
    show T _ _ _ _ [.int (Int32.ofNat (gN l.length))] _ _
    refine xt_istore_n (i := 3) (lv' := [(3, .int (Int32.ofNat (gN l.length))), (2, .int (Int32.ofNat l.length)), (0, .ref a), (1, .int (Int32.ofNat (l.length + 1)))]) dJx4a65c_grow_92f84_30 rfl (by show (_ : Nat) < 4; decide) rfl ?_
    refine xt_aload_n (j := 2) dJx4a65c_grow_92f84_31 rfl rfl ?_
    refine xt_aload_n (j := 2) dJx4a65c_grow_92f84_32 rfl rfl ?_
    refine xt_getR (b := b) dJx4a65c_grow_92f84_33 (flJx4a65c_9 rfl) ft_1_1 ha.1 ha.2 hr ?_
    refine xt_iload_n (j := 0) dJx4a65c_grow_92f84_36 rfl rfl ?_
    refine xt_callS (h2 := h + 2) (as := [.ref b, .int (Int32.ofNat (gN l.length))]) (st := [.ref a]) dJx4a65c_grow_92f84_37 (mlJx4a65c_66 rfl) rfl (by simp [Value.category]) (Nat.le_refl _) (S_copyO2 (Q := fun r M2 => r = some (.ref (mN M1)) ∧ M2 = wCr (nwA M1 24 (gN l.length)) b (mN M1) 0 0 l.length) ob hL gb.1 (by omega) hk (fun j hj y hy => ?_) ⟨rfl, rfl⟩) (fun r M2 hp hE2 => ?_)
    · rw [hg j hj] at hy
      cases hy
      refine hel _ ?_
      rw [List.getD_eq_getElem?_getD, List.getElem?_eq_getElem hj]
      exact List.getElem_mem hj
    obtain ⟨rfl, rfl⟩ := hp
    show T _ _ _ _ [.ref (mN M1), .ref a] _ _
    refine xt_dup_x1 dJx4a65c_grow_92f84_40 rfl rfl ?_
    have ha1 : ok (nwA M1 24 (gN l.length)) a 1 := ok_nwA ha
    refine xt_putR dJx4a65c_grow_92f84_41 (flJx4a65c_9 rfl) ft_1_1 rfl (show a < mN (wCr (nwA M1 24 (gN l.length)) b (mN M1) 0 0 l.length) from ha1.1) (show mK (wCr (nwA M1 24 (gN l.length)) b (mN M1) 0 0 l.length) a = 1 from ha1.2) ?_
    refine xt_areturn (rt := .array (.object "java/lang/Object")) dJx4a65c_grow_92f84_44 rfl (Or.inr ⟨_, rfl⟩) (H _ (gN l.length) ?_)
    have eb : mAR (nwA M1 24 (gN l.length)) b = mAR M1 b := va_up_ne _ _ (Nat.ne_of_lt ob.1)
    refine ⟨⟨mE_nwA.tr ⟨Nat.le_refl _, Nat.le_refl _, fun _ _ => ⟨rfl, rfl⟩⟩, fun c hc hn => ⟨rfl, rfl, up2_row hn, va_up_ne _ _ (Nat.ne_of_lt hc), va_up_ne _ _ (Nat.ne_of_lt hc), (va_up_ne _ _ (Nat.ne_of_lt hc)).trans (va_up_ne _ _ (Nat.ne_of_lt hc))⟩⟩, rfl, rfl, fun f hf => up2_ne (fun z => hf z.2), up2_eq, (ok_newA : ok (nwA M1 24 (gN l.length)) (mN M1) 24), va_up_self _ _ _, gb, fun j hj => ?_, rfl, rfl⟩
    show va_up (mAR (nwA M1 24 (gN l.length))) (mN M1) (va_cpy (mAR (nwA M1 24 (gN l.length)) b) (mAR (nwA M1 24 (gN l.length)) (mN M1)) 0 0 l.length) (mN M1) j = _
    rw [va_up_self, eb]
    unfold va_cpy
    rw [if_pos ⟨Nat.zero_le _, by omega⟩, Nat.zero_add, Nat.sub_zero]
    exact hg j hj
theorem S_grow0 (hA : ALp M a b ci l) (hfull : Ful M b l) (hk : ELk ci) (H : ∀ M1 N, Gro M M1 a N l → Q (some (.ref (mN M))) M1) : E (h + 4) mdJx4a65c_grow_d5877 [.ref a] M Q := by
  have ha := hA.1
  refine E.of (by decide) (Nat.le_of_ble_eq_true rfl) (fun _ _ _ => trivial) ?_
  show T _ _ 0 [(0, .ref a)] [] M _
  refine xt_aload_n (j := 0) dJx4a65c_grow_d5877_0 rfl rfl ?_
  refine xt_aload_n (j := 0) dJx4a65c_grow_d5877_1 rfl rfl ?_
  refine xt_getI dJx4a65c_grow_d5877_2 (flJx4a65c_48 rfl) ft_1_2 ha.1 ha.2 ?_
  refine xt_iconst (v := 1) dJx4a65c_grow_d5877_5 (by decide) ?_
  refine xt_iadd dJx4a65c_grow_d5877_6 ?_
  rw [hA.2.1, succ32]
  refine xt_callV (h2 := h + 3) (b := a) (as := [.int (Int32.ofNat (l.length + 1))]) (st := []) dJx4a65c_grow_d5877_7 (mlJx4a65c_69 rfl) rfl ha.1 (by rw [ha.2]; exact ⟨rfl, by decide⟩) (by decide) (Nat.le_refl _) (S_growI (Q := fun r M1 => r = some (.ref (mN M)) ∧ ∃ N, Gro M M1 a N l) hA hfull hk (fun M1 N g => ⟨rfl, N, g⟩)) (fun r M1 hp hE => ?_)
  obtain ⟨rfl, N, g⟩ := hp
  show T _ _ _ _ [.ref (mN M)] _ _
  exact xt_areturn (rt := .array (.object "java/lang/Object")) dJx4a65c_grow_d5877_10 rfl (Or.inr ⟨_, rfl⟩) (H M1 N g)
theorem add3_tail {n : Nat} (ha : ok M a 1) (hb : ok M b 24) (hn : n < mL M b) (hL : mL M b ≤ 1000000) (hk : ELk ci) (hv : ELc M ci v) (H : Q none (wI (wAR M b n (some v)) a 2 (Int32.ofNat (n + 1)))) : T h mdJx4a65c_add_72be8 11 [(0, .ref a), (1, .ref v), (2, .ref b), (3, .int (Int32.ofNat n))] [] M Q := by
  refine xt_aload_n (j := 2) dJx4a65c_add_72be8_11 rfl rfl ?_
  refine xt_iload_n (j := 3) dJx4a65c_add_72be8_12 rfl rfl ?_
  refine xt_aload_n (j := 1) dJx4a65c_add_72be8_13 rfl rfl ?_
  refine xt_aastO (ci := ci) dJx4a65c_add_72be8_14 hb (vp_of hn (by omega)) hk hv ?_
  rw [lt32 (by omega)]
  refine xt_aload_n (j := 0) dJx4a65c_add_72be8_15 rfl rfl ?_
  refine xt_iload_n (j := 3) dJx4a65c_add_72be8_16 rfl rfl ?_
  refine xt_iconst (v := 1) dJx4a65c_add_72be8_17 (by decide) ?_
  refine xt_iadd dJx4a65c_add_72be8_18 ?_
  rw [succ32]
  refine xt_putI dJx4a65c_add_72be8_19 (flJx4a65c_48 rfl) ty_1_2 rfl (show a < mN (wAR M b n (some v)) from ha.1) (show mK (wAR M b n (some v)) a = 1 from ha.2) ?_
  exact xt_return dJx4a65c_add_72be8_22 rfl H
theorem getD_apN {l : List Nat} {v j : Nat} (h : j < l.length + 1) : (l ++ [v]).getD j 0 = if j = l.length then v else l.getD j 0 := by
  rw [List.getD_eq_getElem?_getD, List.getD_eq_getElem?_getD]
  by_cases hj : j = l.length
  · rw [if_pos hj, hj, List.getElem?_append_right (Nat.le_refl _), Nat.sub_self]; rfl
  · rw [if_neg hj, List.getElem?_append_left (by omega)]
theorem al_fin (ha : ok M a 1) (hb : ok M b 24) (hr : mR M a 1 = some b) (hn : l.length < mL M b) (hL : mL M b ≤ 1000000) (hl : l.length < 100000) (hel : ∀ x ∈ l, ELc M ci x) (hv : ELc M ci v) (hg : ∀ i, i < l.length → mAR M b i = some (l.getD i 0)) : ALp (wI (wAR M b l.length (some v)) a 2 (Int32.ofNat (l.length + 1))) a b ci (l ++ [v]) := by
  have e : (l ++ [v]).length = l.length + 1 := by rw [List.length_append]; rfl
  refine ⟨ha, by rw [mI_own, e], by omega, fun x hx => ?_, hr, Or.inr ⟨hb, by rw [e]; exact hn, by show 1 ≤ mL M b; omega, hL, fun i hi => ?_⟩⟩
  · rcases List.mem_append.mp hx with q | q
    · exact (hel x q).e ⟨Nat.le_refl _, Nat.le_refl _, fun _ _ => ⟨rfl, rfl⟩⟩
    · rw [List.mem_singleton.mp q]
      exact hv.e ⟨Nat.le_refl _, Nat.le_refl _, fun _ _ => ⟨rfl, rfl⟩⟩
  · rw [e] at hi
    rw [getD_apN hi]
    show up2 (mAR M) b l.length (some v) b i = _
    by_cases q : i = l.length
    · rw [if_pos q, q]; exact up2_eq
    · rw [if_neg q, up2_ne (fun z => q z.2)]; exact hg i (by omega)
theorem C_add3 (hA : ALp M a b ci l) (hl : l.length < 100000) (hk : ELk ci) (hv : ELc M ci v) (H : ∀ M' b', ALp M' a b' ci (l ++ [v]) → ALF M M' a b b' l.length → Q none M') : E (h + 5) mdJx4a65c_add_72be8 [.ref a, .ref v, .ref b, .int (Int32.ofNat l.length)] M Q := by
  obtain ⟨ha, hs, hl2, hel, hr, hb⟩ := id hA
  refine E.of (by decide) (Nat.le_of_ble_eq_true rfl) (fun _ _ _ => trivial) ?_
  show T _ _ 0 [(0, .ref a), (1, .ref v), (2, .ref b), (3, .int (Int32.ofNat l.length))] [] M _
  refine xt_iload_n (j := 3) dJx4a65c_add_72be8_0 rfl rfl ?_
  refine xt_aload_n (j := 2) dJx4a65c_add_72be8_1 rfl rfl ?_
  -- the row is full
  have full : Ful M b l → T (h + 5) mdJx4a65c_add_72be8 6 [(0, .ref a), (1, .ref v), (2, .ref b), (3, .int (Int32.ofNat l.length))] [] M Q := by
    intro hf
    refine xt_aload_n (j := 0) dJx4a65c_add_72be8_6 rfl rfl ?_
    refine xt_callV (h2 := h + 4) (b := a) (as := []) (st := []) dJx4a65c_add_72be8_7 (mlJx4a65c_129 rfl) rfl ha.1 (by rw [ha.2]; exact ⟨rfl, by decide⟩) (by decide) (Nat.le_refl _) (S_grow0 (Q := fun r M1 => r = some (.ref (mN M)) ∧ ∃ N, Gro M M1 a N l) hA hf hk (fun M1 N g => ⟨rfl, N, g⟩)) (fun r M1 hp hE => ?_)
    obtain ⟨rfl, N, g⟩ := hp
    show T _ _ _ _ [.ref (mN M)] _ _
    refine xt_astore_n (i := 2) (lv' := [(2, .ref (mN M)), (0, .ref a), (1, .ref v), (3, .int (Int32.ofNat l.length))]) dJx4a65c_add_72be8_10 rfl (by show (_ : Nat) < 4; decide) rfl ?_
    refine xt_sub [1, 2, 0, 3] rfl ?_
    obtain ⟨g1, g2, g3, g4, g5, g6, g7, g8, g9, gA, gB⟩ := g
    have ha1 := ok_E ha g1.1
    have hne : a ≠ mN M := Nat.ne_of_lt ha.1
    have nab : ¬ (a = mN M ∧ (2 : Nat) = 1) := fun z => hne z.1
    refine add3_tail (ci := ci) ha1 g6 (by rw [g7]; exact g8.1) (by rw [g7]; omega) hk (hv.e g1.1) (H _ (mN M) (al_fin ha1 g6 g5 (by rw [g7]; exact g8.1) (by rw [g7]; omega) hl (fun x hx => (hel x hx).e g1.1) (hv.e g1.1) g9) ?_)
    refine ⟨⟨g1.1.tr ⟨Nat.le_refl _, Nat.le_refl _, fun _ _ => ⟨rfl, rfl⟩⟩, fun c hc hn => ?_⟩, fun f f0 f2 => ?_, g3, fun f f1 => g4 f f1, Or.inr rfl, by show mN M1 ≤ _; omega, by show mS M1 ≤ _; omega, fun hb => ?_⟩
    · have nc : c ≠ a := fun z => hn (Or.inl z)
      obtain ⟨r1, r2, r3, r4, r5, r6⟩ := g1.2 c hc nc
      exact ⟨(up2_row nc).trans r1, r2, r3, r4, r5, (up2_row (Nat.ne_of_lt hc)).trans r6⟩
    · show up2 (mI M1) a 2 _ a f = _
      rw [up2_ne (fun z => f2 z.2), g2]
    · show mS M1 + 4 * Lb M b ≤ mS M + 4 * (if mN M < mBig then mL M1 (mN M) else 0) ∧ (Lb M b ≤ 10 + 2 * l.length → (if mN M < mBig then mL M1 (mN M) else 0) ≤ 12 + 2 * l.length)
      rw [if_pos hb, g7]
      have lb : Lb M b ≤ l.length := by
        unfold Lb
        rcases hf with ⟨q1, -⟩ | ⟨-, q2, -⟩
        · rw [if_neg (by rw [q1]; omega)]; exact Nat.zero_le _
        · split
          · omega
          · exact Nat.zero_le _
      omega
  rcases hb with ⟨q1, q2⟩ | ⟨ob, hlen, hpos, hmx, hg⟩
  · have hf : Ful M b l := Or.inl ⟨q1, q2⟩
    have ff := full hf
    rw [q1] at ff ⊢
    refine xt_spEl dJx4a65c_add_72be8_2 ?_
    exact xt_icmp_ne (tgt := 11) dJx4a65c_add_72be8_3 (by decide) (fun hc => absurd (by rw [q2]; rfl) hc) (fun _ => ff)
  · refine xt_alen dJx4a65c_add_72be8_2 ob.1 (Or.inr (Or.inr (Or.inr (Or.inr (Or.inl ob.2))))) ?_
    refine xt_icmp_ne (tgt := 11) dJx4a65c_add_72be8_3 (by decide) (fun hc => ?_) (fun hc => full (Or.inr ⟨ob, (inj32 (by omega) (by omega) hc).symm, by have := inj32 (by omega) (by omega) hc; omega, hg⟩))
    have hne : l.length ≠ mL M b := fun z => hc (by rw [z])
    have hnab : b ≠ a := fun z => by have := ob.2; rw [z, ha.2] at this; exact absurd this (by decide)
    refine add3_tail (ci := ci) ha ob (by omega) hmx hk hv (H _ b (al_fin ha ob hr (by omega) hmx hl hel hv hg) ?_)
    refine ⟨⟨⟨Nat.le_refl _, Nat.le_refl _, fun _ _ => ⟨rfl, rfl⟩⟩, fun c hc hn => ⟨up2_row (fun z => hn (Or.inl z)), rfl, rfl, rfl, rfl, up2_row (fun z => hn (Or.inr ⟨z, by rw [z]; exact ob.2⟩))⟩⟩, fun f f0 f2 => up2_ne (fun z => f2 z.2), rfl, fun f f1 => rfl, Or.inl rfl, Nat.le_succ _, by show mS M ≤ _; omega, fun _ => ⟨Nat.le_refl _, fun z => Nat.le_trans z (by omega)⟩⟩
theorem S_add (hA : ALp M a b ci l) (hl : l.length < 100000) (hk : ELk ci) (hv : ELc M ci v) (H : ∀ M' b', ALp M' a b' ci (l ++ [v]) → ALF M M' a b b' l.length → Q (some (.int 1)) M') : E (h + 6) mdJx4a65c_add_9ea2d [.ref a, .ref v] M Q := by
  obtain ⟨ha, hs, hl2, hel, hr, hb⟩ := id hA
  have e0 : mE M (wI M a 0 (mI M a 0 + 1)) := ⟨Nat.le_refl _, Nat.le_refl _, fun _ _ => ⟨rfl, rfl⟩⟩
  have s2 : mI (wI M a 0 (mI M a 0 + 1)) a 2 = Int32.ofNat l.length := (up2_ne (by simp)).trans hs
  have hA1 : ALp (wI M a 0 (mI M a 0 + 1)) a b ci l := ⟨ha, s2, hl2, fun x hx => (hel x hx).e e0, hr, hb⟩
  refine E.of (by decide) (Nat.le_of_ble_eq_true rfl) (fun _ _ _ => trivial) ?_
  show T _ _ 0 [(0, .ref a), (1, .ref v)] [] M _
  refine xt_aload_n (j := 0) dJx4a65c_add_9ea2d_0 rfl rfl ?_
  refine xt_dup dJx4a65c_add_9ea2d_1 rfl ?_
  refine xt_mcG dJx4a65c_add_9ea2d_2 rfl ha ?_
  refine xt_iconst (v := 1) dJx4a65c_add_9ea2d_5 (by decide) ?_
  refine xt_iadd dJx4a65c_add_9ea2d_6 ?_
  refine xt_mcP dJx4a65c_add_9ea2d_7 rfl ha ?_
  obtain ⟨M1, e1⟩ : ∃ z, z = wI M a 0 (mI M a 0 + 1) := ⟨_, rfl⟩
  rw [← e1] at hA1 s2 ⊢
  have ha1 := hA1.1
  refine xt_aload_n (j := 0) dJx4a65c_add_9ea2d_10 rfl rfl ?_
  refine xt_aload_n (j := 1) dJx4a65c_add_9ea2d_11 rfl rfl ?_
  refine xt_aload_n (j := 0) dJx4a65c_add_9ea2d_12 rfl rfl ?_
  refine xt_getR (b := b) dJx4a65c_add_9ea2d_13 (flJx4a65c_9 rfl) ft_1_1 ha1.1 ha1.2 hA1.2.2.2.2.1 ?_
  refine xt_aload_n (j := 0) dJx4a65c_add_9ea2d_16 rfl rfl ?_
  refine xt_getI dJx4a65c_add_9ea2d_17 (flJx4a65c_48 rfl) ft_1_2 ha1.1 ha1.2 ?_
  rw [s2]
  refine xt_callV (h2 := h + 5) (b := a) (as := [.ref v, .ref b, .int (Int32.ofNat l.length)]) (st := []) dJx4a65c_add_9ea2d_20 (mlJx4a65c_131 rfl) rfl ha1.1 (by rw [ha1.2]; exact ⟨rfl, by decide⟩) (by decide) (Nat.le_refl _) (C_add3 (Q := fun r M' => r = none ∧ ∃ b', ALp M' a b' ci (l ++ [v]) ∧ ALF M1 M' a b b' l.length) hA1 hl hk (hv.e (by rw [e1]; exact e0)) (fun M' b' A' F' => ⟨rfl, b', A', F'⟩)) (fun r M2 hp hE => ?_)
  obtain ⟨rfl, b', A', f1, f2, f3, f4, f5, f6, f7⟩ := hp
  show T _ _ _ _ [] _ _
  refine xt_iconst (v := 1) dJx4a65c_add_9ea2d_23 (by decide) ?_
  refine xt_zreturn dJx4a65c_add_9ea2d_24 rfl (Or.inr rfl) (H M2 b' A' ?_)
  rw [e1] at f1 f2 f3 f4 f5 f6 f7
  refine ⟨⟨e0.tr f1.1, fun c hc hn => ?_⟩, fun g g0 g2 => (f2 g g0 g2).trans (up2_ne (fun z => g0 z.2)), f3, f4, f5, f6, f7⟩
  obtain ⟨r1, r2, r3, r4, r5, r6⟩ := f1.2 c hc hn
  exact ⟨r1.trans (up2_row (fun z => hn (Or.inl z))), r2, r3, r4, r5, r6⟩
theorem S_alSize (hA : ALp M a b ci l) (H : Q (some (.int (Int32.ofNat l.length))) M) : E (h + 1) mdJx4a65c_size_8abf5 [.ref a] M Q := by
  refine (C_alSize hA.1).imp (fun r M' _ z => ?_)
  obtain ⟨rfl, rfl⟩ := z
  rw [hA.2.1]
  exact H
theorem C_check15 {i n : Nat} (hi : i < n) (hn : n < 2147483648) : E (h + 2) mdJ15_checkIndex_7cf53 [.int (Int32.ofNat i), .int (Int32.ofNat n)] M (fun r M' => r = some (.int (Int32.ofNat i)) ∧ M' = M) := by
  refine E.of (by decide) (Nat.le_of_ble_eq_true rfl) (fun _ _ _ => trivial) ?_
  show T _ _ 0 [(0, .int (Int32.ofNat i)), (1, .int (Int32.ofNat n))] [] M _
  refine xt_iload_n (j := 0) dJ15_checkIndex_7cf53_0 rfl rfl ?_
  refine xt_iload_n (j := 1) dJ15_checkIndex_7cf53_1 rfl rfl ?_
  refine xt_null dJ15_checkIndex_7cf53_2 ?_
  refine xt_callS (h2 := h + 1) (as := [.int (Int32.ofNat i), .int (Int32.ofNat n), .null]) (st := []) dJ15_checkIndex_7cf53_3 (mlJ15_105 rfl) rfl (by decide) (Nat.le_refl _) (C_check3 rfl (by rw [show (0 : Int32) = Int32.ofNat 0 from rfl, ltn32 (by omega) (by decide)]; omega) ((ltn32 (by omega) hn).mpr hi)) (fun r M1 hp hE => ?_)
  obtain ⟨rfl, rfl⟩ := hp
  show T _ _ _ _ [.int (Int32.ofNat i)] _ _
  exact xt_ireturn dJ15_checkIndex_7cf53_6 rfl ⟨rfl, rfl⟩
theorem S_get {i : Nat} (hA : ALp M a b ci l) (hi : i < l.length) (H : Q (some (.ref (l.getD i 0))) M) : E (h + 3) mdJx4a65c_get_915e3 [.ref a, .int (Int32.ofNat i)] M Q := by
  obtain ⟨ha, hs, hl2, hel, hr, hb⟩ := hA
  rcases hb with ⟨q1, q2⟩ | ⟨ob, hlen, hpos, hmx, hg⟩
  · rw [q2] at hi; exact absurd hi (Nat.not_lt_zero _)
  refine E.of (by decide) (Nat.le_of_ble_eq_true rfl) (fun _ _ _ => trivial) ?_
  show T _ _ 0 [(0, .ref a), (1, .int (Int32.ofNat i))] [] M _
  refine xt_iload_n (j := 1) dJx4a65c_get_915e3_0 rfl rfl ?_
  refine xt_aload_n (j := 0) dJx4a65c_get_915e3_1 rfl rfl ?_
  refine xt_getI dJx4a65c_get_915e3_2 (flJx4a65c_48 rfl) ft_1_2 ha.1 ha.2 ?_
  rw [hs]
  refine xt_callS (h2 := h + 2) (as := [.int (Int32.ofNat i), .int (Int32.ofNat l.length)]) (st := []) dJx4a65c_get_915e3_5 (mlJx4a65c_118 rfl) rfl (by decide) (Nat.le_refl _) (C_check15 hi (by omega)) (fun r M1 hp hE => ?_)
  obtain ⟨rfl, rfl⟩ := hp
  show T _ _ _ _ [.int (Int32.ofNat i)] _ _
  refine xt_pop dJx4a65c_get_915e3_8 rfl ?_
  refine xt_aload_n (j := 0) dJx4a65c_get_915e3_9 rfl rfl ?_
  refine xt_iload_n (j := 1) dJx4a65c_get_915e3_10 rfl rfl ?_
  have hE : E (h + 1) mdJx4a65c_elementData_915e3 [.ref a, .int (Int32.ofNat i)] M1 (fun r M2 => r = some (.ref (l.getD i 0)) ∧ M2 = M1) := by
    refine E.of (by decide) (Nat.le_of_ble_eq_true rfl) (fun _ _ _ => trivial) ?_
    show T _ _ 0 [(0, .ref a), (1, .int (Int32.ofNat i))] [] M1 _
    refine xt_aload_n (j := 0) dJx4a65c_elementData_915e3_0 rfl rfl ?_
    refine xt_getR (b := b) dJx4a65c_elementData_915e3_1 (flJx4a65c_9 rfl) ft_1_1 ha.1 ha.2 hr ?_
    refine xt_iload_n (j := 1) dJx4a65c_elementData_915e3_4 rfl rfl ?_
    refine xt_aald (b := l.getD i 0) dJx4a65c_elementData_915e3_5 ob.1 ob.2 (vp_of (by omega) (by omega)) (by rw [lt32 (by omega)]; exact hg i hi) ?_
    exact xt_areturn (rt := .object "java/lang/Object") dJx4a65c_elementData_915e3_6 rfl (Or.inl ⟨_, rfl⟩) ⟨rfl, rfl⟩
  refine xt_callV (h2 := h + 1) (b := a) (as := [.int (Int32.ofNat i)]) (st := []) dJx4a65c_get_915e3_11 (mlJx4a65c_123 rfl) rfl ha.1 (by rw [ha.2]; exact ⟨rfl, by decide⟩) (by decide) (by omega) hE (fun r M2 hp _ => ?_)
  obtain ⟨rfl, rfl⟩ := hp
  show T _ _ _ _ [.ref (l.getD i 0)] _ _
  exact xt_areturn (rt := .object "java/lang/Object") dJx4a65c_get_915e3_14 rfl (Or.inl ⟨_, rfl⟩) H
end
end
section
/-! Integers: boxes, cached or new -/
def IvR (M : Mem) (b : Nat) (x : Int32) : Prop := (ok M b 0 ∧ mI M b 0 = x) ∨ (∃ k, k < 256 ∧ b = mBig + (1000 + k) ∧ vb_c k = x)
theorem IvR.el {M : Mem} {b : Nat} {x : Int32} (h : IvR M b x) : ELc M 0 b := by
  rcases h with h | ⟨k, hk, e, -⟩
  · exact Or.inl h.1
  · exact Or.inr ⟨rfl, k, hk, e⟩
theorem IvR.fr {M M' : Mem} {b : Nat} {x : Int32} {S : Nat → Prop} (h : IvR M b x) (k : fr S M M') (hS : ∀ a, a < mN M → S a → mK M a ≠ 0) : IvR M' b x := by
  rcases h with ⟨h1, h2⟩ | h
  · refine Or.inl ⟨ok_E h1 k.1, ?_⟩
    rw [(k.2 b h1.1 (fun z => hS b h1.1 z h1.2)).1]
    exact h2
  · exact Or.inr h
/-- what making a box leaves of the rest -/
def VoF (M M' : Mem) : Prop := fr (fun _ => False) M M' ∧ mN M' ≤ mN M + 1 ∧ mS M' ≤ mS M + 1
section
variable {h : Nat} {M : Mem} {Q : Option Value → Mem → Prop}
theorem C_numInit {a : Nat} : E (h + 1) mdJxd2413_init_da8c8 [.ref a] M (fun r M' => r = none ∧ M' = M) := by
  refine E.of (by decide) (Nat.le_of_ble_eq_true rfl) (fun _ _ _ => trivial) ?_
  show T _ _ 0 [(0, .ref a)] [] M _
  refine xt_aload_n (j := 0) dJxd2413_init_da8c8_0 rfl rfl ?_
  refine xt_objInit dJxd2413_init_da8c8_1 (oiJxd2413_1 rfl) (by decide) (Nat.succ_le_succ (Nat.zero_le _)) ?_
  exact xt_return dJxd2413_init_da8c8_4 rfl ⟨rfl, rfl⟩
theorem C_intInit {a : Nat} {x : Int32} (ha : ok M a 0) : E (h + 2) mdJ6_init_d00df [.ref a, .int x] M (fun r M' => r = none ∧ M' = wI M a 0 x) := by
  refine E.of (by decide) (Nat.le_of_ble_eq_true rfl) (fun _ _ _ => trivial) ?_
  show T _ _ 0 [(0, .ref a), (1, .int x)] [] M _
  refine xt_aload_n (j := 0) dJ6_init_d00df_0 rfl rfl ?_
  refine xt_callI (h2 := h + 1) (as := []) (st := []) dJ6_init_d00df_1 (mlJ6_202 rfl) rfl (by decide) (Nat.le_refl _) C_numInit (fun r M1 hp hE => ?_)
  obtain ⟨rfl, rfl⟩ := hp
  show T _ _ _ _ [] _ _
  refine xt_aload_n (j := 0) dJ6_init_d00df_4 rfl rfl ?_
  refine xt_iload_n (j := 1) dJ6_init_d00df_5 rfl rfl ?_
  refine xt_putI dJ6_init_d00df_6 (flJ6_205 rfl) (by decide +kernel) rfl ha.1 ha.2 ?_
  exact xt_return dJ6_init_d00df_9 rfl ⟨rfl, rfl⟩
theorem wJ6_191 : Cond.fieldLink mdJ6_valueOf_2dffe.1.cls 191 "java/lang/Integer$IntegerCache" "high" "I" ∈ TB := tbL tbk_5 118 (by decide +kernel) rfl
theorem wJ6_195 : Cond.fieldLink mdJ6_valueOf_2dffe.1.cls 195 "java/lang/Integer$IntegerCache" "cache" "[Ljava/lang/Integer;" ∈ TB := tbL tbk_5 120 (by decide +kernel) rfl
theorem cache_c {x : Int32} (h1 : ¬ x < -128) (h2 : ¬ 127 < x) : vp_in (x + 128) 256 ∧ (x + 128).toNatClampNeg < 256 ∧ vb_c (x + 128).toNatClampNeg = x := by
  refine ⟨?_, ?_, ?_⟩
  · ((try simp only [Int32.toNatClampNeg, Int32.lt_iff_toInt_lt, Int32.le_iff_toInt_le, ← Int32.toInt_inj, j_add, j_sub, j_neg, j_mul, j_nat, Int32.reduceToInt, vp_in] at *); omega)
  · ((try simp only [Int32.toNatClampNeg, Int32.lt_iff_toInt_lt, Int32.le_iff_toInt_le, ← Int32.toInt_inj, j_add, j_sub, j_neg, j_mul, j_nat, Int32.reduceToInt, vp_in] at *); omega)
  · unfold vb_c
    ((try simp only [Int32.toNatClampNeg, Int32.lt_iff_toInt_lt, Int32.le_iff_toInt_le, ← Int32.toInt_inj, j_add, j_sub, j_neg, j_mul, j_nat, Int32.reduceToInt, vp_in] at *); omega)
theorem S_valueOf {x : Int32} (H : ∀ M' b, IvR M' b x → VoF M M' → Q (some (.ref b)) M') : E (h + 3) mdJ6_valueOf_2dffe [.int x] M Q := by
  have new : T (h + 3) mdJ6_valueOf_2dffe 23 [(0, .int x)] [] M Q := by
    refine xt_new (ci := 0) dJ6_valueOf_2dffe_23 (nlJ6_1 rfl) ?_
    refine xt_dup dJ6_valueOf_2dffe_26 rfl ?_
    refine xt_iload_n (j := 0) dJ6_valueOf_2dffe_27 rfl rfl ?_
    have oN : ok (nwO M 0 (cls 0).2.2) (mN M) 0 := ⟨Nat.lt_succ_self _, va_up_self _ _ _⟩
    refine xt_callI (h2 := h + 2) (b := mN M) (as := [.int x]) (st := [.ref (mN M)]) dJ6_valueOf_2dffe_28 (mlJ6_199 rfl) rfl (by simp [Value.category]) (Nat.le_refl _) (C_intInit oN) (fun r M1 hp hE => ?_)
    obtain ⟨rfl, e1⟩ := hp
    show T _ _ _ _ [.ref (mN M)] _ _
    refine xt_areturn (rt := .object "java/lang/Integer") dJ6_valueOf_2dffe_31 rfl (Or.inl ⟨_, rfl⟩) (H M1 (mN M) (Or.inl ⟨ok_E oN hE, by rw [e1]; exact up2_eq⟩) ?_)
    rw [e1]
    refine ⟨⟨mE_nwO.tr mE_wI, fun c hc _ => ?_⟩, Nat.le_refl _, Nat.le_refl _⟩
    have nc : c ≠ mN M := Nat.ne_of_lt hc
    exact ⟨(up2_row nc).trans (va_up_ne _ _ nc), va_up_ne _ _ nc, va_up_ne _ _ nc, rfl, rfl, rfl⟩
  refine E.of (by decide) (Nat.le_of_ble_eq_true rfl) (fun _ _ _ => trivial) ?_
  show T _ _ 0 [(0, .int x)] [] M _
  refine xt_iload_n (j := 0) dJ6_valueOf_2dffe_0 rfl rfl ?_
  refine xt_bipush (v := -128) dJ6_valueOf_2dffe_1 (by decide) ?_
  refine xt_icmp_lt (tgt := 23) dJ6_valueOf_2dffe_3 (by decide) (fun _ => new) (fun h1 => ?_)
  refine xt_iload_n (j := 0) dJ6_valueOf_2dffe_6 rfl rfl ?_
  refine xt_gsH dJ6_valueOf_2dffe_7 wJ6_191 ?_
  refine xt_icmp_gt (tgt := 23) dJ6_valueOf_2dffe_10 (by decide) (fun _ => new) (fun h2 => ?_)
  obtain ⟨c1, c2, c3⟩ := cache_c h1 h2
  refine xt_gsI dJ6_valueOf_2dffe_13 wJ6_195 ?_
  refine xt_iload_n (j := 0) dJ6_valueOf_2dffe_16 rfl rfl ?_
  refine xt_sipush (v := 128) dJ6_valueOf_2dffe_17 (by decide) ?_
  refine xt_iadd dJ6_valueOf_2dffe_20 ?_
  refine xt_spI dJ6_valueOf_2dffe_21 c1 ?_
  exact xt_areturn (rt := .object "java/lang/Integer") dJ6_valueOf_2dffe_22 rfl (Or.inl ⟨_, rfl⟩) (H M _ (Or.inr ⟨_, c2, rfl, c3⟩) ⟨fr.rf, Nat.le_succ _, Nat.le_succ _⟩)
theorem S_intValue {b : Nat} {x : Int32} (hb : IvR M b x) (H : Q (some (.int x)) M) : E (h + 1) mdJ6_intValue_8abf5 [.ref b] M Q := by
  refine E.of (by decide) (Nat.le_of_ble_eq_true rfl) (fun _ _ _ => trivial) ?_
  show T _ _ 0 [(0, .ref b)] [] M _
  refine xt_aload_n (j := 0) dJ6_intValue_8abf5_0 rfl rfl ?_
  rcases hb with ⟨h1, h2⟩ | ⟨k, hk, rfl, h2⟩
  · refine xt_getI dJ6_intValue_8abf5_1 (flJ6_205 rfl) (by decide +kernel) h1.1 h1.2 ?_
    rw [h2]
    exact xt_ireturn dJ6_intValue_8abf5_4 rfl H
  · refine xt_intX dJ6_intValue_8abf5_1 (flJ6_205 (d := mdJ6_intValue_8abf5) rfl).2.2.2 hk ?_
    rw [h2]
    exact xt_ireturn dJ6_intValue_8abf5_4 rfl H
/-- in a caller: the box on the stack becomes its number -/
theorem xt_unbox {d : MD} {pc idx cix b : Nat} {lv : List (Nat × Value)} {st : List Value} {x : Int32} (hc : decode d.2.1 pc = .ok (.checkcast cix, 3)) (hd : decode d.2.1 (pc + 3) = .ok (.invokevirtual idx, 3)) (h1 : cl2 d cix 0) (hm : ml d idx 0 0 mdJ6_intValue_8abf5) (hb : IvR M b x) (hcat : (st.map fun v => v.category).sum ≤ 8) (kk : T (h + 2) d (pc + 6) lv (.int x :: st) M Q) : T (h + 2) d pc lv (.ref b :: st) M Q := by
  rcases id hb with ⟨o1, o2⟩ | ⟨k, hk, rfl, h2⟩
  · refine xt_cast hc h1 o1.1 o1.2 ?_
    refine xt_callV (h2 := h + 1) (as := []) (st := st) hd hm rfl o1.1 (by rw [o1.2]; exact ⟨rfl, by decide⟩) hcat (Nat.le_refl _) (S_intValue (Q := fun r M1 => r = some (.int x) ∧ M1 = M) hb ⟨rfl, rfl⟩) (fun r M1 hp hE => ?_)
    obtain ⟨rfl, rfl⟩ := hp
    exact kk
  · refine xt_castX hc h1.2 hk ?_
    refine xt_callX (h2 := h + 1) (as := []) (st := st) hd hm rfl (Or.inr ⟨by omega, rfl⟩) hcat (Nat.le_refl _) (S_intValue (Q := fun r M1 => r = some (.int x) ∧ M1 = M) hb ⟨rfl, rfl⟩) (fun r M1 hp hE => ?_)
    obtain ⟨rfl, rfl⟩ := hp
    exact kk
end
/-- a list of Integers, by their values -/
def ALi (M : Mem) (a b : Nat) (xs : List Int32) : Prop := ∃ l : List Nat, ALp M a b 0 l ∧ l.length = xs.length ∧ ∀ i, i < l.length → IvR M (l.getD i 0) (xs.getD i 0)
end
section
/-! lists under frames; the literal of an if -/
theorem ALp.fr {M M' : Mem} {a b ci : Nat} {l : List Nat} {S : Nat → Prop} (hA : ALp M a b ci l) (k : fr S M M') (na : ¬ S a) (nb : mK M b = 24 → ¬ S b) : ALp M' a b ci l := by
  obtain ⟨ha, hs, hl, hel, hr, hb⟩ := hA
  have ra := k.2 a ha.1 na
  refine ⟨ok_E ha k.1, by rw [ra.1]; exact hs, hl, fun v hv => (hel v hv).e k.1, by rw [ra.2.2.1]; exact hr, ?_⟩
  rcases hb with q | ⟨ob, hlen, hpos, hmx, hg⟩
  · exact Or.inl q
  · have e := (k.1.2.2 b ob.1).2
    refine Or.inr ⟨ok_E ob k.1, by rw [e]; exact hlen, by rw [e]; exact hpos, by rw [e]; exact hmx, fun i hi => ?_⟩
    rw [(k.2 b ob.1 (nb ob.2)).2.2.2.2.2]
    exact hg i hi
theorem ALi.fr {M M' : Mem} {a b : Nat} {xs : List Int32} {S : Nat → Prop} (hA : ALi M a b xs) (k : fr S M M') (na : ¬ S a) (nb : mK M b = 24 → ¬ S b) (h0 : ∀ c, c < mN M → S c → mK M c ≠ 0) : ALi M' a b xs := by
  obtain ⟨l, h1, h2, h3⟩ := hA
  exact ⟨l, h1.fr k na nb, h2, fun i hi => (h3 i hi).fr k h0⟩
theorem getD_xa {xs : List Int32} {x : Int32} {n j : Nat} (hn : n = xs.length) (h : j < n + 1) : (xs ++ [x]).getD j 0 = if j = n then x else xs.getD j 0 := by
  subst hn
  exact getD_app h
theorem S_addI {h a b v : Nat} {xs : List Int32} {x : Int32} {M : Mem} {Q : Option Value → Mem → Prop} (hA : ALi M a b xs) (hl : xs.length < 100000) (hv : IvR M v x) (H : ∀ M' b', ALi M' a b' (xs ++ [x]) → ALF M M' a b b' xs.length → Q (some (.int 1)) M') : E (h + 6) mdJx4a65c_add_9ea2d [.ref a, .ref v] M Q := by
  obtain ⟨l, h1, h2, h3⟩ := hA
  have oa := h1.1
  refine S_add h1 (by omega) (Or.inl rfl) hv.el (fun M' b' A' F' => H M' b' ⟨l ++ [v], A', by rw [List.length_append, List.length_append, h2]; rfl, fun i hi => ?_⟩ (h2 ▸ F'))
  have k0 : ∀ c, c < mN M → (c = a ∨ (c = b ∧ mK M c = 24)) → mK M c ≠ 0 := by
    intro c _ z
    rcases z with z | z
    · rw [z, oa.2]; decide
    · rw [z.2]; decide
  rw [List.length_append] at hi
  have hi : i < l.length + 1 := hi
  rw [getD_apN hi, getD_xa h2 hi]
  by_cases q : i = l.length
  · rw [if_pos q, if_pos q]; exact hv.fr F'.1 k0
  · rw [if_neg q, if_neg q]; exact (h3 i (by omega)).fr F'.1 k0
/-- what an if's literal changes -/
def AiF (M M' : Mem) (x a b lc rc lc' rc' b' n : Nat) : Prop := fr (fun c => c = x ∨ c = lc ∨ c = rc ∨ c = a ∨ (c = b ∧ mK M c = 24)) M M' ∧ (∀ f, f ≠ 4 → mI M' x f = mI M x f) ∧ (∀ f, f ≠ 0 → f ≠ 1 → mR M' x f = mR M x f) ∧ mJ M' x = mJ M x ∧ mN M' ≤ mN M + 4 ∧ mS M' + 4 * mL M lc ≤ mS M + 4 * mL M' lc' + (11 + 2 * n) ∧ (lc' = lc ∨ mN M ≤ lc') ∧ (rc' = rc ∨ mN M ≤ rc') ∧ (b' = b ∨ mN M ≤ b')
theorem S_addIf {h x a b lc rc : Nat} {N : Nt} {xs : List Int32} {M : Mem} {Q : Option Value → Mem → Prop} (hP : CirP M x lc rc N) (hlim : N.length < 100000) (hr : mR M x 7 = some a) (hA : ALi M a b xs) (hl : xs.length < 100000) (H : ∀ M' lc' rc' b', CirP M' x lc' rc' (frL N).1 → ALi M' a b' (xs ++ [Int32.ofNat (2 * N.length)]) → AiF M M' x a b lc rc lc' rc' b' xs.length → Q (some (.int (Int32.ofNat (2 * N.length)))) M') : E (h + 7) mdX0_addIf [.ref x] M Q := by
  have ox := hP.1
  have kl := hP.2.2.1.2
  have kr := hP.2.2.2.2.1.2
  obtain ⟨l0, hA1, -⟩ := id hA
  have oa := hA1.1
  have kk : ∀ c, c < mN M → (c = x ∨ c = lc ∨ c = rc) → mK M c = 2 ∨ mK M c = 21 := by
    intro c _ z
    rcases z with z | z | z
    · rw [z]; exact Or.inl ox.2
    · rw [z]; exact Or.inr kl
    · rw [z]; exact Or.inr kr
  refine KX0_addIf ?_
  unfold DX0_addIf_0
  refine ⟨ox, S_fresh (h := h + 2) hP hlim (fun M1 lc1 rc1 P1 F1 e1 => ⟨_, rfl, a, by rw [F1.2.2.1 7 (by decide) (by decide)]; exact hr, S_valueOf (h := h + 3) (fun M2 v hv V2 e2 => ⟨v, rfl, ?_⟩)⟩)⟩
  have e12 := F1.1.1
  have kx : ∀ {c : Nat}, c = x ∨ c = lc ∨ c = rc → mK M c = 2 ∨ mK M c = 21 := by
    intro c z
    rcases z with z | z | z
    · rw [z]; exact Or.inl ox.2
    · rw [z]; exact Or.inr kl
    · rw [z]; exact Or.inr kr
  have A1 : ALi M1 a b xs := hA.fr F1.1 (fun z => by rcases kx z with q | q <;> rw [oa.2] at q <;> exact absurd q (by decide)) (fun hb z => by rcases kx z with q | q <;> rw [hb] at q <;> exact absurd q (by decide)) (fun c _ z w => by rcases kx z with q | q <;> rw [w] at q <;> exact absurd q (by decide))
  have A2 : ALi M2 a b xs := A1.fr V2.1 (fun z => z) (fun _ z => z) (fun _ _ z => z.elim)
  have row2 : ∀ c, c < mN M1 → sameRow M1 M2 c := fun c hc => V2.1.2 c hc (fun z => z)
  have P2 : CirP M2 x lc1 rc1 (frL N).1 := P1.fr V2.1.1 (row2 _ P1.1.1) (row2 _ P1.2.2.1.1) (row2 _ P1.2.2.2.2.1.1)
  obtain ⟨l2, hA2, -⟩ := id A2
  refine ⟨hA2.1, S_addI (h := h) A2 hl hv (fun M3 b' A3 F3 _ => ⟨_, rfl, ?_⟩)⟩
  have kx2 : ∀ {c : Nat}, (c = a ∨ (c = b ∧ mK M2 c = 24)) → mK M2 c = 1 ∨ mK M2 c = 24 := by
    intro c z
    rcases z with z | z
    · rw [z]; exact Or.inl hA2.1.2
    · exact Or.inr z.2
  have nn : ∀ {c k : Nat}, ok M2 c k → k = 2 ∨ k = 21 → ¬ (c = a ∨ (c = b ∧ mK M2 c = 24)) := by
    intro c k o hk z
    have o2 := o.2
    rcases kx2 z with q | q <;> rcases hk with w | w <;> (rw [o2, w] at q; exact absurd q (by decide))
  have row3 : ∀ {c k : Nat}, ok M2 c k → k = 2 ∨ k = 21 → sameRow M2 M3 c := fun o hk => F3.1.2 _ o.1 (nn o hk)
  have P3 : CirP M3 x lc1 rc1 (frL N).1 := P2.fr F3.1.1 (row3 P2.1 (Or.inl rfl)) (row3 P2.2.2.1 (Or.inr rfl)) (row3 P2.2.2.2.2.1 (Or.inr rfl))
  obtain ⟨c1, c2, c3, c4, c5, c6, c7, c8, c9⟩ := F1
  obtain ⟨d1, d2, d3, d4, d5, d6, d7⟩ := F3
  obtain ⟨v1, v2, v3⟩ := V2
  have hx1 : x < mN M1 := P1.1.1
  have hx2 : x < mN M2 := P2.1.1
  have rx2 := row2 x hx1
  have rx3 := d1.2 x hx2 (nn P2.1 (Or.inl rfl))
  have len : (frL N).1.length = N.length + 1 := by show (N ++ [_]).length = _; rw [List.length_append]; rfl
  have hL1 : mL M3 lc1 = mL M1 lc1 := ((d1.1.2.2 lc1 P2.2.2.1.1).2).trans (v1.1.2.2 lc1 P1.2.2.1.1).2
  refine H M3 lc1 rc1 b' P3 A3 ⟨⟨(c1.1.tr v1.1).tr d1.1, fun c hc hn => ?_⟩, fun f hf => by rw [rx3.1, rx2.1]; exact c2 f hf, fun f f0 f1 => by rw [rx3.2.2.1, rx2.2.2.1]; exact c3 f f0 f1, by rw [rx3.2.1, rx2.2.1]; exact c4, by omega, by omega, c7, c8, ?_⟩
  · have r1 := c1.2 c hc (fun z => hn (by rcases z with z | z | z; exact Or.inl z; exact Or.inr (Or.inl z); exact Or.inr (Or.inr (Or.inl z))))
    have hc1 : c < mN M1 := Nat.lt_of_lt_of_le hc c1.1.1
    have hc2 : c < mN M2 := Nat.lt_of_lt_of_le hc1 v1.1.1
    have kc : mK M2 c = mK M c := ((v1.1.2.2 c hc1).1).trans (c1.1.2.2 c hc).1
    have r2 := row2 c hc1
    have r3 := d1.2 c hc2 (fun z => hn (by rcases z with z | z; exact Or.inr (Or.inr (Or.inr (Or.inl z))); exact Or.inr (Or.inr (Or.inr (Or.inr ⟨z.1, by rw [← kc]; exact z.2⟩)))))
    exact ⟨r3.1.trans (r2.1.trans r1.1), r3.2.1.trans (r2.2.1.trans r1.2.1), r3.2.2.1.trans (r2.2.2.1.trans r1.2.2.1), r3.2.2.2.1.trans (r2.2.2.2.1.trans r1.2.2.2.1), r3.2.2.2.2.1.trans (r2.2.2.2.2.1.trans r1.2.2.2.2.1), r3.2.2.2.2.2.trans (r2.2.2.2.2.2.trans r1.2.2.2.2.2)⟩
  · rcases d5 with q | q
    · exact Or.inl q
    · have := c1.1.1
      have := v1.1.1
      exact Or.inr (by omega)
end
