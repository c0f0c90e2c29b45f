/-! the class reads what is told: against td -/
theorem ebA {ε α β γ : Type} {x : Except ε α} {f : α → Except ε β} {g : β → Except ε γ} : (x.bind f).bind g = x.bind (fun y => (f y).bind g) := by cases x <;> rfl
def tdSg (b : Nat → Int32) (n i : Nat) (r : Int32) (τ : Td) : Except (Int32 × Nat) (Nat × Td) := (adv' b n i).bind fun j => (tdX b n j r τ).bind fun k => (tdH b n k).bind fun q => .ok (q.1, (τ.1 ++ [tC b n j], τ.2.1 ++ [r], τ.2.2.1 ++ [q.2], τ.2.2.2.1, τ.2.2.2.2))
def tdVr (b : Nat → Int32) (n i : Nat) (τ : Td) : Except (Int32 × Nat) (Nat × Td) := (adv' b n i).bind fun j => (tdX b n j 36 τ).bind fun k => (tdV b n k).bind fun q => .ok (q.1, (τ.1, τ.2.1, τ.2.2.1, τ.2.2.2.1 ++ [tC b n j], τ.2.2.2.2 ++ [q.2]))
theorem td_eq {b : Nat → Int32} {n g i : Nat} {τ : Td} : td b n (g + 1) i τ = if tK b n i = 36 then (tdVr b n i τ).bind fun q => (ex b n q.1 13).bind fun l => td b n g l q.2 else if tK b n i = 30 ∨ tK b n i = 31 ∨ tK b n i = 32 then (tdSg b n i (tK b n i) τ).bind fun q => (ex b n q.1 13).bind fun l => td b n g l q.2 else .ok (i, τ) := by
  unfold tdVr tdSg
  conv => lhs; unfold td
  simp only [ebA]
  rfl
def EndTc (b : Nat → Int32) (n s n0 : Nat) (M : Mem) (lc rc L o : Nat) (Q : Option Value → Mem → Prop) (R : Except (Int32 × Nat) (Nat × Td)) : Prop := match R with
  | .ok r => ∀ M' lc' rc', TI b n s M' r.1 o → CT n0 r.2 M' lc' rc' → TdF n0 M M' lc rc lc' rc' L r.2.1.length → Q none M'
  | .error e => ∀ M' lc' rc' τ', TF M' e.1 e.2 → CT n0 τ' M' lc' rc' → TdF n0 M M' lc rc lc' rc' L τ'.1.length → Q none M'
section
variable {b : Nat → Int32} {n s n0 : Nat} {τ : Td} {M M' : Mem} {i o lc rc : Nat} {h : Nat} {Q : Option Value → Mem → Prop}
theorem C_readSig {r : Int32} (hB : By b) (hS : Sto b n s) (hr : r = 30 ∨ r = 31 ∨ r = 32) (hk : tK b n i = r) (hT : TI b n s M i o) (hC : CT n0 τ M lc rc) (hE : EndTc b n s n0 M lc rc τ.1.length o Q (tdSg b n i r τ)) : E (h + 7) mdX4_readSignal [.ref 14, .int r] M Q := by
  have F := hT.1
  have lm := hC.lim
  have h0 := hT.2.2.2.2.2.2.2.2.2
  have hs := hS.lt hT.2.1.2.2 h0 (by rw [hk]; rcases hr with z | z | z <;> (rw [z]; decide))
  unfold tdSg at hE
  refine KX4_readSignal ?_
  unfold DX4_readSignal_0
  have bad : ∀ (M1 : Mem) (f : Int32) (p : Nat), TF M1 f p → TFr M M1 → EndTc b n s n0 M lc rc τ.1.length o Q (.error (f, p)) → ∃ b6 : Nat, mR M1 14 0 = some b6 ∧ ok M1 b6 9 ∧ (¬ mI M1 b6 9 = 2 → Q none M1) ∧ ¬ mI M1 b6 9 = 2 ∧ b6 = 15 := by
    intro M1 f p T1 F1 K
    exact ⟨15, rf14_0 T1.1, ok15 T1.1, fun _ => K M1 lc rc τ T1 (hC.t F1) (TdF.t F1 lm.1), by rw [T1.2.2.2.2.2]; decide, rfl⟩
  refine ⟨ok14 F, 15, rf14_0 F, ok15 F, A_adv (h := h + 5) hT hs (fun k1 M1 T1 F1 _ => ⟨rfl, ?_⟩) (fun k1 M1 T1 F1 _ => ⟨rfl, X_check (h := h + 3) T1 (fun _ => ⟨rfl, ?_⟩)⟩)⟩
  · rw [adv_ok' k1] at hE
    have hE : EndTc b n s n0 M lc rc τ.1.length o Q ((tdX b n (i + 1) r τ).bind fun k => (tdH b n k).bind fun q => .ok (q.1, (τ.1 ++ [tC b n (i + 1)], τ.2.1 ++ [r], τ.2.2.1 ++ [q.2], τ.2.2.2.1, τ.2.2.2.2))) := hE
    unfold tdX at hE
    have C1 := hC.t F1
    refine C_check (h := h + 3) (r := r) T1 C1 hB (fun q2 q3 q6 _ => ⟨rfl, 15, rf14_0 T1.1, ok15 T1.1, fun _ => ?_, fun z => absurd (T1.kind.trans q2) z⟩) (fun q2 M2 T2 F2 _ => ⟨rfl, ?_⟩) (fun q2 q3 M2 T2 F2 _ => ⟨rfl, ?_⟩) (fun q2 q3 q6 M2 T2 F2 _ => ⟨rfl, ?_⟩)
    · rw [if_pos q2, if_neg (by rw [q3]; decide), if_neg (by rw [q6]; decide)] at hE
      have hs1 := hS.lt hs k1 (by rw [q2]; decide)
      have e9 : mI M1 n0 9 = Int32.ofNat τ.1.length := C1.1.1.2.2.1
      refine ⟨n0, C1.lim.2.2.1, C1.1.1.1, n0, C1.lim.2.2.1, 15, rf14_0 T1.1, ok15 T1.1, C1.1.1.1, ?_⟩
      rw [T1.word hB q2, e9]
      refine C_addSig (h := h) T1.1.1 C1 hr q6 (fun M2 lc2 rc2 C2 F2 f2 _ => ⟨rfl, ?_⟩)
      have T2 := TI_hi T1 f2
      have G2 := (TdF.t (lc := lc) (rc := rc) (L := τ.1.length) F1 lm.1).tr F2
      have lm2 := C2.lim
      have ll : (τ.1 ++ [tC b n (i + 1)]).length = τ.1.length + 1 := by rw [List.length_append]; rfl
      refine ⟨15, rf14_0 T2.1, ok15 T2.1, A_adv (h := h + 5) T2 hs1 (fun k2 M3 T3 F3 _ => ⟨rfl, 15, rf14_0 T3.1, ok15 T3.1, ?_⟩) (fun k2 M3 T3 F3 _ => ⟨rfl, 15, rf14_0 T3.1, ok15 T3.1, F_accept (h := h + 4) T3 (by decide) (fun _ => ⟨_, rfl, fun _ => ?_, fun z => absurd rfl z⟩)⟩)⟩
      · rw [adv_ok' k2] at hE
        have hE : EndTc b n s n0 M lc rc τ.1.length o Q ((tdH b n (i + 1 + 1)).bind fun q => .ok (q.1, (τ.1 ++ [tC b n (i + 1)], τ.2.1 ++ [r], τ.2.2.1 ++ [q.2], τ.2.2.2.1, τ.2.2.2.2))) := hE
        unfold tdH at hE
        have C3 := C2.t F3
        have G3 := G2.tr (TdF.t (lc := lc2) (rc := rc2) (L := τ.1.length + 1) F3 lm.1)
        unfold DX4_readSignal_119
        refine A_accept (h := h + 4) T3 hS (by decide) (fun q4 k4 M4 T4 F4 _ => ⟨_, rfl, fun z => absurd z (by decide), fun _ => ⟨15, rf14_0 T4.1, ok15 T4.1, ?_⟩⟩) (fun q4 k4 M4 T4 F4 _ => ⟨_, rfl, fun z => absurd z (by decide), fun _ => ⟨15, rf14_0 T4.1, ok15 T4.1, ?_⟩⟩) (fun q4 _ => ⟨_, rfl, fun _ => ?_, fun z => absurd rfl z⟩)
        · rw [if_pos q4, adv_ok' k4] at hE
          have hE : EndTc b n s n0 M lc rc τ.1.length o Q ((if tK b n (i + 1 + 1 + 1) = 33 ∨ tK b n (i + 1 + 1 + 1) = 34 ∨ tK b n (i + 1 + 1 + 1) = 35 then (adv' b n (i + 1 + 1 + 1)).bind fun l => .ok (l, tK b n (i + 1 + 1 + 1)) else .error (2, tP b n (i + 1 + 1 + 1))).bind fun q => .ok (q.1, (τ.1 ++ [tC b n (i + 1)], τ.2.1 ++ [r], τ.2.2.1 ++ [q.2], τ.2.2.2.1, τ.2.2.2.2))) := hE
          have C4 := C3.t F4
          have G4 := G3.tr (TdF.t (lc := lc2) (rc := rc2) (L := τ.1.length + 1) F4 lm.1)
          have hs3 : i + 1 + 1 + 1 ≤ s := by have := T4.2.1; omega
          rw [T4.kind]
          have good : ∀ v : Int32, tK b n (i + 1 + 1 + 1) = v → (v = 33 ∨ v = 34 ∨ v = 35) → DX4_readSignal_91 (h + 6) 14 (Int32.ofNat τ.1.length) (tK b n (i + 1 + 1 + 1)) M4 Q := by
            intro v ev hv
            rw [ev, if_pos hv] at hE
            rw [ev]
            have hs4 := hS.lt hs3 k4 (by rw [ev]; rcases hv with z | z | z <;> (rw [z]; decide))
            unfold DX4_readSignal_91 DX4_readSignal_119
            obtain ⟨-, -, -, -, -, -, -, -, h27, ⟨c1, c2, c3⟩, -⟩ := id C4.1.1
            have lml := lm.2.2.2.2.2.2
            have hl16 : τ.1.length < 16 := by have w : (τ.1 ++ [tC b n (i + 1)]).length ≤ 16 := C4.lim.2.2.2.2.2.2.1; omega
            refine ⟨ok14 T4.1, n0, C4.lim.2.2.1, C4.1.1.1, n0 + 3, h27, c1, by rw [c2]; exact vp_of hl16 (by decide), fun M5 e5 => ?_⟩
            rw [lt32 (by omega), ← lml.2] at e5
            obtain ⟨C5, G5, f5⟩ := C4.mix (mx0 := τ.2.2.1) (x := 0) rfl e5
            have T5 := TI_hi T4 f5
            have G5' : TdF n0 M4 M5 lc2 rc2 lc2 rc2 (τ.1.length + 1) (τ.1.length + 1) := by rw [← ll]; exact G5
            have T5e := rf14_0 T5.1
            refine ⟨15, rf14_0 T5.1, ok15 T5.1, A_adv (h := h + 5) T5 hs4 (fun k6 M6 T6 F6 _ => ⟨rfl, ?_⟩) (fun k6 M6 T6 F6 _ => ⟨rfl, ?_⟩)⟩
            · rw [adv_ok' k6] at hE
              refine hE M6 lc2 rc2 T6 (C5.t F6) ?_
              show TdF n0 M M6 lc rc lc2 rc2 τ.1.length (τ.1 ++ [tC b n (i + 1)]).length
              rw [ll]
              exact (G4.tr G5').tr (TdF.t F6 lm.1)
            · rw [adv_er' k6] at hE
              refine hE M6 lc2 rc2 _ T6 (C5.t F6) ?_
              show TdF n0 M M6 lc rc lc2 rc2 τ.1.length (τ.1 ++ [tC b n (i + 1)]).length
              rw [ll]
              exact (G4.tr G5').tr (TdF.t F6 lm.1)
          refine ⟨fun z => good 33 z (Or.inl rfl), fun z3 => ⟨fun z => good 34 z (Or.inr (Or.inl rfl)), fun z4 => ⟨fun z5 => ?_, fun z => good 35 z (Or.inr (Or.inr rfl))⟩⟩⟩
          rw [if_neg (by rintro (z | z | z) <;> first | exact z3 z | exact z4 z | exact z5 z)] at hE
          refine ⟨15, rf14_0 T4.1, ok15 T4.1, A_fail T4 (by decide) (fun M5 T5 F5 _ => ⟨rfl, hE M5 lc2 rc2 _ T5 (C4.t F5) ?_⟩)⟩
          show TdF n0 M M5 lc rc lc2 rc2 τ.1.length (τ.1 ++ [tC b n (i + 1)]).length
          rw [ll]
          exact G4.tr (TdF.t F5 lm.1)
        · rw [if_pos q4, adv_er' k4] at hE
          have k9 : mI M4 15 9 = 0 := T4.2.2.2.2.2
          have y : Q none M4 := by
            refine hE M4 lc2 rc2 _ T4 (C3.t F4) ?_
            show TdF n0 M M4 lc rc lc2 rc2 τ.1.length (τ.1 ++ [tC b n (i + 1)]).length
            rw [ll]
            exact G3.tr (TdF.t F4 lm.1)
          rw [k9]
          exact ⟨fun z => absurd z (by decide), fun _ => ⟨fun z => absurd z (by decide), fun _ => ⟨fun _ => ⟨15, rf14_0 T4.1, ok15 T4.1, F_fail T4 (fun _ => ⟨rfl, y⟩)⟩, fun z => absurd z (by decide)⟩⟩⟩
        · rw [if_neg q4] at hE
          refine hE M3 lc2 rc2 T3 C3 ?_
          show TdF n0 M M3 lc rc lc2 rc2 τ.1.length (τ.1 ++ [tC b n (i + 1)]).length
          rw [ll]
          exact G3
      · rw [adv_er' k2] at hE
        unfold DX4_readSignal_119
        refine hE M3 lc2 rc2 _ T3 (C2.t F3) ?_
        show TdF n0 M M3 lc rc lc2 rc2 τ.1.length (τ.1 ++ [tC b n (i + 1)]).length
        rw [ll]
        exact G2.tr (TdF.t F3 lm.1)
    · rw [if_neg q2] at hE
      obtain ⟨b6, x1, x2, x3, x4, -⟩ := bad M2 2 _ T2 (F1.tr F2) hE
      exact ⟨b6, x1, x2, fun z => absurd z x4, x3⟩
    · rw [if_pos q2, if_pos q3] at hE
      obtain ⟨b6, x1, x2, x3, x4, -⟩ := bad M2 3 _ T2 (F1.tr F2) hE
      exact ⟨b6, x1, x2, fun z => absurd z x4, x3⟩
    · rw [if_pos q2, if_neg (by rw [q3]; decide), if_pos q6] at hE
      obtain ⟨b6, x1, x2, x3, x4, -⟩ := bad M2 6 _ T2 (F1.tr F2) hE
      exact ⟨b6, x1, x2, fun z => absurd z x4, x3⟩
  · rw [adv_er' k1] at hE
    obtain ⟨b6, x1, x2, x3, x4, -⟩ := bad M1 1 _ T1 F1 hE
    exact ⟨b6, x1, x2, fun z => absurd z x4, x3⟩
theorem C_readVar (hB : By b) (hS : Sto b n s) (hk : tK b n i = 36) (hT : TI b n s M i o) (hC : CT n0 τ M lc rc) (hE : EndTc b n s n0 M lc rc τ.1.length o Q (tdVr b n i τ)) : E (h + 7) mdX4_readVariable [.ref 14] M Q := by
  have F := hT.1
  have lm := hC.lim
  have h0 := hT.2.2.2.2.2.2.2.2.2
  have hs := hS.lt hT.2.1.2.2 h0 (by rw [hk]; decide)
  unfold tdVr at hE
  refine KX4_readVariable ?_
  unfold DX4_readVariable_0
  have bad : ∀ (M1 : Mem) (f : Int32) (p : Nat), TF M1 f p → TFr M M1 → EndTc b n s n0 M lc rc τ.1.length o Q (.error (f, p)) → ∃ b6 : Nat, mR M1 14 0 = some b6 ∧ ok M1 b6 9 ∧ (¬ mI M1 b6 9 = 2 → Q none M1) ∧ ¬ mI M1 b6 9 = 2 ∧ b6 = 15 := by
    intro M1 f p T1 F1 K
    exact ⟨15, rf14_0 T1.1, ok15 T1.1, fun _ => K M1 lc rc τ T1 (hC.t F1) (TdF.t F1 lm.1), by rw [T1.2.2.2.2.2]; decide, rfl⟩
  -- behind a fault behind the name
  have end115 : ∀ (M1 : Mem) (f : Int32) (p : Nat), TF M1 f p → Q none M1 → DX4_readVariable_115 (h + 6) 14 M1 Q := by
    intro M1 f p T1 K
    unfold DX4_readVariable_115
    exact ⟨ok14 T1.1, 15, rf14_0 T1.1, ok15 T1.1, F_expect (h := h + 4) T1 (by decide) (fun _ => ⟨rfl, K⟩)⟩
  refine ⟨ok14 F, 15, rf14_0 F, ok15 F, A_adv (h := h + 5) hT hs (fun k1 M1 T1 F1 _ => ⟨rfl, ?_⟩) (fun k1 M1 T1 F1 _ => ⟨rfl, X_check (h := h + 3) T1 (fun _ => ⟨rfl, ?_⟩)⟩)⟩
  · rw [adv_ok' k1] at hE
    have hE : EndTc b n s n0 M lc rc τ.1.length o Q ((tdX b n (i + 1) 36 τ).bind fun k => (tdV b n k).bind fun q => .ok (q.1, (τ.1, τ.2.1, τ.2.2.1, τ.2.2.2.1 ++ [tC b n (i + 1)], τ.2.2.2.2 ++ [q.2]))) := hE
    unfold tdX at hE
    have C1 := hC.t F1
    refine C_check (h := h + 3) (r := 36) T1 C1 hB (fun q2 q3 q6 _ => ⟨rfl, 15, rf14_0 T1.1, ok15 T1.1, fun _ => ?_, fun z => absurd (T1.kind.trans q2) z⟩) (fun q2 M2 T2 F2 _ => ⟨rfl, ?_⟩) (fun q2 q3 M2 T2 F2 _ => ⟨rfl, ?_⟩) (fun q2 q3 q6 M2 T2 F2 _ => ⟨rfl, ?_⟩)
    · rw [if_pos q2, if_neg (by rw [q3]; decide), if_neg (by rw [q6]; decide)] at hE
      have hs1 := hS.lt hs k1 (by rw [q2]; decide)
      have e12 : mI M1 n0 12 = Int32.ofNat τ.2.2.2.1.length := C1.1.1.2.2.2.1
      refine ⟨n0, C1.lim.2.2.1, C1.1.1.1, n0, C1.lim.2.2.1, 15, rf14_0 T1.1, ok15 T1.1, C1.1.1.1, ?_⟩
      rw [T1.word hB q2, e12]
      refine C_addVar (h := h + 4) C1 q6 (fun M2 x C2 F2 f2 _ => ⟨rfl, ?_⟩)
      have T2 := TI_hi T1 f2
      have G2 := (TdF.t (lc := lc) (rc := rc) (L := τ.1.length) F1 lm.1).tr F2
      refine ⟨15, rf14_0 T2.1, ok15 T2.1, A_adv (h := h + 5) T2 hs1 (fun k2 M3 T3 F3 _ => ⟨rfl, 15, rf14_0 T3.1, ok15 T3.1, ?_⟩) (fun k2 M3 T3 F3 _ => ⟨rfl, 15, rf14_0 T3.1, ok15 T3.1, F_expect (h := h + 4) T3 (by decide) (fun _ => ⟨rfl, 15, rf14_0 T3.1, ok15 T3.1, F_accept (h := h + 4) T3 (by decide) (fun _ => ⟨_, rfl, 15, rf14_0 T3.1, ok15 T3.1, fun _ => end115 M3 _ _ T3 ?_, fun z => absurd (T3.2.2.2.2.2.symm.trans z) (by decide)⟩)⟩)⟩)⟩
      · rw [adv_ok' k2] at hE
        have hE : EndTc b n s n0 M lc rc τ.1.length o Q ((tdV b n (i + 1 + 1)).bind fun q => .ok (q.1, (τ.1, τ.2.1, τ.2.2.1, τ.2.2.2.1 ++ [tC b n (i + 1)], τ.2.2.2.2 ++ [q.2]))) := hE
        unfold tdV ex at hE
        have C3 := C2.t F3
        have G3 := G2.tr (TdF.t (lc := lc) (rc := rc) (L := τ.1.length) F3 lm.1)
        have flt : ∀ (M4 : Mem) (f : Int32) (p : Nat), TF M4 f p → TFr M3 M4 → EndTc b n s n0 M lc rc τ.1.length o Q (.error (f, p)) → Q none M4 := fun M4 f p T4 F4 K => K M4 lc rc _ T4 (C3.t F4) (G3.tr (TdF.t F4 lm.1))
        refine A_expect (h := h + 4) T3 (by decide) (fun q5 k5 M4 T4 F4 _ => ⟨rfl, 15, rf14_0 T4.1, ok15 T4.1, ?_⟩) (fun q5 k5 M4 T4 F4 _ => ⟨rfl, 15, rf14_0 T4.1, ok15 T4.1, F_accept (h := h + 4) T4 (by decide) (fun _ => ⟨_, rfl, 15, rf14_0 T4.1, ok15 T4.1, fun _ => end115 M4 _ _ T4 ?_, fun z => absurd (T4.2.2.2.2.2.symm.trans z) (by decide)⟩)⟩) (fun q5 M4 T4 F4 _ => ⟨rfl, 15, rf14_0 T4.1, ok15 T4.1, F_accept (h := h + 4) T4 (by decide) (fun _ => ⟨_, rfl, 15, rf14_0 T4.1, ok15 T4.1, fun _ => end115 M4 _ _ T4 ?_, fun z => absurd (T4.2.2.2.2.2.symm.trans z) (by decide)⟩)⟩) hS.2.2.1
        · rw [if_pos q5, adv_ok' k5] at hE
          have hE : EndTc b n s n0 M lc rc τ.1.length o Q ((if tK b n (i + 1 + 1 + 1) = 21 then (adv' b n (i + 1 + 1 + 1)).bind fun l => if tK b n l = 3 then (adv' b n l).bind fun p => .ok (p, -(tC b n l)) else .error (2, tP b n l) else if tK b n (i + 1 + 1 + 1) = 3 then (adv' b n (i + 1 + 1 + 1)).bind fun p => .ok (p, tC b n (i + 1 + 1 + 1)) else .error (2, tP b n (i + 1 + 1 + 1))).bind fun q => .ok (q.1, (τ.1, τ.2.1, τ.2.2.1, τ.2.2.2.1 ++ [tC b n (i + 1)], τ.2.2.2.2 ++ [q.2]))) := hE
          have C4 := C3.t F4
          -- at the number
          have num : ∀ (M5 : Mem) (j : Nat) (v : Int64), TI b n s M5 j o → TFr M3 M5 → tK b n j = 3 → EndTc b n s n0 M lc rc τ.1.length o Q ((adv' b n j).bind fun p => .ok (p, (τ.1, τ.2.1, τ.2.2.1, τ.2.2.2.1 ++ [tC b n (i + 1)], τ.2.2.2.2 ++ [v]))) → ∀ b29 : Nat, b29 = n0 + 6 → DX4_readVariable_113 (h + 6) 14 b29 (Int32.ofNat τ.2.2.2.1.length) v M5 Q := by
            rintro M5 j v T5 F5 q3 K b29 rfl
            have C5 := C3.t F5
            obtain ⟨-, -, -, ⟨v1, v2, v3, v4, v5⟩, -⟩ := id C5
            have v4' : (τ.2.2.2.2 ++ [x]).length = (τ.2.2.2.1 ++ [tC b n (i + 1)]).length := v4
            have hv : τ.2.2.2.2.length = τ.2.2.2.1.length := by rw [List.length_append, List.length_append] at v4'; exact Nat.succ.inj v4'
            have h6 : (τ.2.2.2.1 ++ [tC b n (i + 1)]).length ≤ 6 := C5.1.1.2.1.2.2.2
            rw [List.length_append] at h6
            have h6 : τ.2.2.2.1.length + 1 ≤ 6 := h6
            unfold DX4_readVariable_113 DX4_readVariable_115
            refine ⟨v2, by rw [v3]; exact vp_of (by omega) (by decide), fun M6 e6 => ?_⟩
            rw [lt32 (by omega), ← hv] at e6
            obtain ⟨C6, G6, f6⟩ := C5.beg (vB0 := τ.2.2.2.2) (x := x) rfl e6
            have T6 := TI_hi T5 f6
            have G6' := (G3.tr (TdF.t (lc := lc) (rc := rc) (L := τ.1.length) F5 lm.1)).tr G6
            refine ⟨ok14 T6.1, 15, rf14_0 T6.1, ok15 T6.1, A_expect (h := h + 4) T6 (by decide) (fun y3 k7 M7 T7 F7 _ => ⟨rfl, ?_⟩) (fun y3 k7 M7 T7 F7 _ => ⟨rfl, ?_⟩) (fun y3 => absurd q3 y3) hS.2.2.1⟩
            · rw [adv_ok' k7] at K
              exact K M7 lc rc T7 (C6.t F7) (G6'.tr (TdF.t F7 lm.1))
            · rw [adv_er' k7] at K
              exact K M7 lc rc _ T7 (C6.t F7) (G6'.tr (TdF.t F7 lm.1))
          have nonum : ∀ (M5 : Mem) (j : Nat), TI b n s M5 j o → TFr M3 M5 → tK b n j ≠ 3 → EndTc b n s n0 M lc rc τ.1.length o Q (.error (2, tP b n j)) → DX4_readVariable_115 (h + 6) 14 M5 Q := by
            intro M5 j T5 F5 q3 K
            unfold DX4_readVariable_115
            exact ⟨ok14 T5.1, 15, rf14_0 T5.1, ok15 T5.1, A_expect (h := h + 4) T5 (by decide) (fun y3 => absurd y3 q3) (fun y3 => absurd y3 q3) (fun _ M6 T6 F6 _ => ⟨rfl, flt M6 2 _ T6 (F5.tr F6) K⟩) hS.2.2.1⟩
          have R5 : ∀ (M5 : Mem), TFr M3 M5 → ∃ b27 : Nat, mR M5 14 7 = some b27 ∧ ok M5 b27 3 ∧ mR M5 b27 5 = some (n0 + 6) ∧ b27 = n0 := fun M5 F5 => ⟨n0, (C3.t F5).lim.2.2.1, (C3.t F5).1.1.1, (C3.t F5).2.2.2.1.1, rfl⟩
          refine A_accept (h := h + 4) T4 hS (by decide) (fun q21 k6 M5 T5 F5 _ => ⟨_, rfl, 15, rf14_0 T5.1, ok15 T5.1, fun z => ?_, fun z => ?_⟩) (fun q21 k6 M5 T5 F5 _ => ⟨_, rfl, 15, rf14_0 T5.1, ok15 T5.1, fun _ => end115 M5 _ _ T5 ?_, fun z => absurd (T5.2.2.2.2.2.symm.trans z) (by decide)⟩) (fun q21 _ => ⟨_, rfl, 15, rf14_0 T4.1, ok15 T4.1, fun z => ?_, fun z => ?_⟩)
          · rw [T5.kind] at z
            rw [if_pos q21, adv_ok' k6] at hE
            have hE : EndTc b n s n0 M lc rc τ.1.length o Q ((if tK b n (i + 1 + 1 + 1 + 1) = 3 then (adv' b n (i + 1 + 1 + 1 + 1)).bind fun p => .ok (p, -(tC b n (i + 1 + 1 + 1 + 1))) else .error (2, tP b n (i + 1 + 1 + 1 + 1))).bind fun q => .ok (q.1, (τ.1, τ.2.1, τ.2.2.1, τ.2.2.2.1 ++ [tC b n (i + 1)], τ.2.2.2.2 ++ [q.2]))) := hE
            rw [if_neg z] at hE
            exact nonum M5 _ T5 (F4.tr F5) z hE
          · rw [T5.kind] at z
            rw [if_pos q21, adv_ok' k6] at hE
            have hE : EndTc b n s n0 M lc rc τ.1.length o Q ((if tK b n (i + 1 + 1 + 1 + 1) = 3 then (adv' b n (i + 1 + 1 + 1 + 1)).bind fun p => .ok (p, -(tC b n (i + 1 + 1 + 1 + 1))) else .error (2, tP b n (i + 1 + 1 + 1 + 1))).bind fun q => .ok (q.1, (τ.1, τ.2.1, τ.2.2.1, τ.2.2.2.1 ++ [tC b n (i + 1)], τ.2.2.2.2 ++ [q.2]))) := hE
            rw [if_pos z, ebA] at hE
            obtain ⟨b27, y1, y2, y3, y4⟩ := R5 M5 (F4.tr F5)
            refine ⟨b27, y1, y2, n0 + 6, y3, fun w => absurd w (by decide), fun _ => ⟨15, rf14_0 T5.1, ok15 T5.1, ?_⟩⟩
            rw [T5.number hB z]
            exact num M5 _ _ T5 (F4.tr F5) z hE _ rfl
          · rw [if_pos q21, adv_er' k6] at hE
            exact flt M5 1 _ T5 (F4.tr F5) hE
          · rw [T4.kind] at z
            rw [if_neg q21, if_neg z] at hE
            exact nonum M4 _ T4 F4 z hE
          · rw [T4.kind] at z
            rw [if_neg q21, if_pos z, ebA] at hE
            obtain ⟨b27, y1, y2, y3, y4⟩ := R5 M4 F4
            refine ⟨b27, y1, y2, n0 + 6, y3, fun _ => ⟨15, rf14_0 T4.1, ok15 T4.1, ?_⟩, fun w => absurd rfl w⟩
            rw [T4.number hB z]
            exact num M4 _ _ T4 F4 z hE _ rfl
        · rw [if_pos q5, adv_er' k5] at hE
          exact flt M4 1 _ T4 F4 hE
        · rw [if_neg q5] at hE
          exact flt M4 2 _ T4 F4 hE
      · rw [adv_er' k2] at hE
        exact hE M3 lc rc _ T3 (C2.t F3) (G2.tr (TdF.t F3 lm.1))
    · rw [if_neg q2] at hE
      obtain ⟨b6, x1, x2, x3, x4, -⟩ := bad M2 2 _ T2 (F1.tr F2) hE
      exact ⟨b6, x1, x2, fun z => absurd z x4, x3⟩
    · rw [if_pos q2, if_pos q3] at hE
      obtain ⟨b6, x1, x2, x3, x4, -⟩ := bad M2 3 _ T2 (F1.tr F2) hE
      exact ⟨b6, x1, x2, fun z => absurd z x4, x3⟩
    · rw [if_pos q2, if_neg (by rw [q3]; decide), if_pos q6] at hE
      obtain ⟨b6, x1, x2, x3, x4, -⟩ := bad M2 6 _ T2 (F1.tr F2) hE
      exact ⟨b6, x1, x2, fun z => absurd z x4, x3⟩
  · rw [adv_er' k1] at hE
    obtain ⟨b6, x1, x2, x3, x4, -⟩ := bad M1 1 _ T1 F1 hE
    exact ⟨b6, x1, x2, fun z => absurd z x4, x3⟩
theorem EndTc.fr {M1 : Mem} {lc1 rc1 L L1 : Nat} {R : Except (Int32 × Nat) (Nat × Td)} (hE : EndTc b n s n0 M lc rc L o Q R) (F : TdF n0 M M1 lc rc lc1 rc1 L L1) : EndTc b n s n0 M1 lc1 rc1 L1 o Q R := by
  cases R with
  | error e => exact fun M' lc' rc' τ' T' C' F' => hE M' lc' rc' τ' T' C' (F.tr F')
  | ok r => exact fun M' lc' rc' T' C' F' => hE M' lc' rc' T' C' (F.tr F')
theorem X_allL {f : Int32} {p : Nat} {c : Int32} (hT : TF M f p) (H : Q none M) : T (h + 1) mdX4_readAllTold 2 [(0, .ref 14), (1, .int c)] [] M Q := by
  have F := hT.1
  have k := hT.2.2.2.2.2
  refine VX4_readAllTold_2 ?_
  unfold DX4_readAllTold_2
  refine ⟨fun _ => H, fun _ => ⟨ok14 F, 15, rf14_0 F, ok15 F, fun _ => ⟨fun hc => absurd (k ▸ hc) (by decide), fun _ => ⟨fun hc => absurd (k ▸ hc) (by decide), fun _ => ⟨fun _ => H, fun hc => absurd (k ▸ hc) (by decide)⟩⟩⟩, fun hc => absurd (k ▸ hc) (by decide)⟩⟩
theorem tdVr_ok (hS : Sto b n s) (hi : i < s) : StOk b n s i (fun j _ => i < j) (tdVr b n i τ) := by
  unfold tdVr
  rcases adv_cases (b := b) (n := n) (i := i) with ⟨k1, e⟩ | ⟨k1, e⟩ <;> rw [e]
  · show (1 : Int32) ≠ 0; decide
  · show StOk b n s i _ ((tdX b n (i + 1) 36 τ).bind _)
    unfold tdX
    split
    · rename_i q
      have hs := hS.lt hi k1 (by rw [q]; decide)
      split
      · show (3 : Int32) ≠ 0; decide
      · split
        · show (6 : Int32) ≠ 0; decide
        · rcases adv_cases (b := b) (n := n) (i := i + 1) with ⟨k2, e2⟩ | ⟨k2, e2⟩ <;> rw [e2]
          · show (1 : Int32) ≠ 0; decide
          · have := tdV_ok (b := b) (n := n) hS hs k2
            show StOk b n s i _ ((tdV b n (i + 1 + 1)).bind _)
            generalize tdV b n (i + 1 + 1) = R at this
            cases R with
            | error e => exact this
            | ok r => exact ⟨by have := this.1; show i ≤ r.1; omega, this.2.1, this.2.2.1, by have := this.1; show i < r.1; omega⟩
    · show (2 : Int32) ≠ 0; decide
theorem tdSg_ok {r : Int32} (hS : Sto b n s) (hi : i < s) : StOk b n s i (fun j _ => i < j) (tdSg b n i r τ) := by
  unfold tdSg
  rcases adv_cases (b := b) (n := n) (i := i) with ⟨k1, e⟩ | ⟨k1, e⟩ <;> rw [e]
  · show (1 : Int32) ≠ 0; decide
  · show StOk b n s i _ ((tdX b n (i + 1) r τ).bind _)
    unfold tdX
    split
    · rename_i q
      have hs := hS.lt hi k1 (by rw [q]; decide)
      split
      · show (3 : Int32) ≠ 0; decide
      · split
        · show (6 : Int32) ≠ 0; decide
        · rcases adv_cases (b := b) (n := n) (i := i + 1) with ⟨k2, e2⟩ | ⟨k2, e2⟩ <;> rw [e2]
          · show (1 : Int32) ≠ 0; decide
          · have := tdH_ok (b := b) (n := n) hS hs k2
            show StOk b n s i _ ((tdH b n (i + 1 + 1)).bind _)
            generalize tdH b n (i + 1 + 1) = R at this
            cases R with
            | error e => exact this
            | ok r => exact ⟨by have := this.1; show i ≤ r.1; omega, this.2.1, this.2.2.1, by have := this.1; show i < r.1; omega⟩
    · show (2 : Int32) ≠ 0; decide
theorem td_ok (hS : Sto b n s) : ∀ (g i : Nat) (τ : Td), s + 1 - i ≤ g → i ≤ s → tK b n i ≠ 0 → StOk b n s i (fun j _ => tK b n j ≠ 36 ∧ tK b n j ≠ 30 ∧ tK b n j ≠ 31 ∧ tK b n j ≠ 32) (td b n g i τ) := by
  intro g
  induction g with
  | zero => intro i τ hg hi _; omega
  | succ g ih =>
    intro i τ hg hi h0
    rw [td_eq]
    have go : ∀ R : Except (Int32 × Nat) (Nat × Td), StOk b n s i (fun j _ => i < j) R → StOk b n s i (fun j _ => tK b n j ≠ 36 ∧ tK b n j ≠ 30 ∧ tK b n j ≠ 31 ∧ tK b n j ≠ 32) (R.bind fun q => (ex b n q.1 13).bind fun l => td b n g l q.2) := by
      intro R hR
      cases R with
      | error e => exact hR
      | ok q =>
        obtain ⟨q1, q2, q3, q4⟩ := hR
        show StOk b n s i _ ((ex b n q.1 13).bind fun l => td b n g l q.2)
        have hx := ex_lt (c := 13) hS q2 q3 (by decide)
        generalize ex b n q.1 13 = R2 at hx
        cases R2 with
        | error e => exact hx
        | ok l =>
          obtain ⟨x1, x2, x3⟩ := hx
          have := ih l q.2 (by omega) x2 x3
          show StOk b n s i _ (td b n g l q.2)
          generalize td b n g l q.2 = R3 at this
          cases R3 with
          | error e => exact this
          | ok r => exact ⟨by have := this.1; omega, this.2⟩
    split
    · rename_i q; exact go _ (tdVr_ok hS (hS.lt hi h0 (by rw [q]; decide)))
    · split
      · rename_i n36 q
        exact go _ (tdSg_ok hS (hS.lt hi h0 (by rcases q with z | z | z <;> (rw [z]; decide))))
      · rename_i n36 q
        exact ⟨Nat.le_refl _, hi, h0, n36, fun z => q (Or.inl z), fun z => q (Or.inr (Or.inl z)), fun z => q (Or.inr (Or.inr z))⟩
theorem C_told (hB : By b) (hS : Sto b n s) : ∀ (g : Nat) (M : Mem) (i c : Nat) (τ : Td) (lc rc : Nat), s + 1 - i ≤ g → c ≤ i → TI b n s M i o → CT n0 τ M lc rc → EndTc b n s n0 M lc rc τ.1.length o Q (td b n g i τ) → T (h + 8) mdX4_readAllTold 2 [(0, .ref 14), (1, .int (Int32.ofNat c))] [] M Q := by
  intro g
  induction g with
  | zero => intro M i c τ lc rc hg _ hT _ _; have := hT.2.1; omega
  | succ g ih =>
    intro M i c τ lc rc hg hc hT hC hE
    have F := hT.1
    have lm := hC.lim
    have hi := hT.2.1
    have h0 := hT.2.2.2.2.2.2.2.2.2
    rw [td_eq] at hE
    have semi : ∀ R : Except (Int32 × Nat) (Nat × Td), StOk b n s i (fun j _ => i < j) R → EndTc b n s n0 M lc rc τ.1.length o Q (R.bind fun q => (ex b n q.1 13).bind fun l => td b n g l q.2) → EndTc b n s n0 M lc rc τ.1.length o (fun r M2 => mE M M2 → r = none ∧ DX4_readAllTold_57 (h + 7) 14 (Int32.ofNat c) M2 Q) R := by
      intro R hok K
      unfold DX4_readAllTold_57
      cases R with
      | error e => exact fun M2 lc2 rc2 τ2 T2 C2 F2 _ => ⟨rfl, ok14 T2.1, 15, rf14_0 T2.1, ok15 T2.1, F_expect (h := h + 5) T2 (by decide) (fun _ => ⟨rfl, X_allL (h := h + 7) T2 (K M2 lc2 rc2 τ2 T2 C2 F2)⟩)⟩
      | ok q =>
        obtain ⟨q1, q2, q3, q4⟩ := hok
        have K : EndTc b n s n0 M lc rc τ.1.length o Q ((ex b n q.1 13).bind fun l => td b n g l q.2) := K
        unfold ex at K
        intro M2 lc2 rc2 T2 C2 F2
        have lm2 := C2.lim
        refine fun _ => ⟨rfl, ok14 T2.1, 15, rf14_0 T2.1, ok15 T2.1, A_expect (h := h + 5) T2 (by decide) (fun y1 y2 M3 T3 F3 _ => ⟨rfl, ?_⟩) (fun y1 y2 M3 T3 F3 _ => ⟨rfl, ?_⟩) (fun y1 M3 T3 F3 _ => ⟨rfl, ?_⟩) hS.2.2.1⟩
        · rw [if_pos y1, adv_ok' y2] at K
          rw [succ32]
          exact ih M3 (q.1 + 1) (c + 1) q.2 lc2 rc2 (by omega) (by omega) T3 (C2.t F3) (EndTc.fr K (F2.tr (TdF.t F3 lm.1)))
        · rw [if_pos y1, adv_er' y2] at K
          exact X_allL (h := h + 7) T3 (K M3 lc2 rc2 q.2 T3 (C2.t F3) (F2.tr (TdF.t F3 lm.1)))
        · rw [if_neg y1] at K
          exact X_allL (h := h + 7) T3 (K M3 lc2 rc2 q.2 T3 (C2.t F3) (F2.tr (TdF.t F3 lm.1)))
    have sig : ∀ r : Int32, tK b n i = r → (r = 30 ∨ r = 31 ∨ r = 32) → DX4_readAllTold_48 (h + 7) 14 (Int32.ofNat c) (mI M 15 9) M Q := by
      intro r hk hr
      have n36 : ¬ tK b n i = 36 := by rw [hk]; rcases hr with z | z | z <;> (rw [z]; decide)
      rw [if_neg n36, if_pos (by rw [hk]; exact hr), hk] at hE
      unfold DX4_readAllTold_48
      rw [hT.kind, hk]
      exact ⟨ok14 F, C_readSig (h := h) hB hS hr hk hT hC (semi _ (tdSg_ok hS (hS.lt hi.2.2 h0 (by rw [hk]; rcases hr with z | z | z <;> (rw [z]; decide)))) hE)⟩
    refine VX4_readAllTold_2 ?_
    unfold DX4_readAllTold_2
    refine ⟨fun z => ?_, fun _ => ⟨ok14 F, 15, rf14_0 F, ok15 F, fun n36 => ⟨fun q => sig 30 (hT.kind ▸ q) (Or.inl rfl), fun n30 => ⟨fun q => sig 31 (hT.kind ▸ q) (Or.inr (Or.inl rfl)), fun n31 => ⟨fun n32 => ?_, fun q => sig 32 (hT.kind ▸ q) (Or.inr (Or.inr rfl))⟩⟩⟩, fun q => ?_⟩⟩
    · have c800 := (le32 (a := 800) (b := c) (by decide) (by omega)).mp z
      have hn := hS.2.1
      have : i = s := by omega
      have hk : tK b n i = 1 := by
        subst this
        rcases hS.2.2.1 with q | q
        · exact absurd q h0
        · exact q
      rw [if_neg (by rw [hk]; decide), if_neg (by rw [hk]; decide)] at hE
      exact hE M lc rc hT hC TdF.rf
    · rw [hT.kind] at n36 n30 n31 n32
      rw [if_neg n36, if_neg (by rintro (z | z | z) <;> first | exact n30 z | exact n31 z | exact n32 z)] at hE
      exact hE M lc rc hT hC TdF.rf
    · rw [hT.kind] at q
      rw [if_pos q] at hE
      exact C_readVar (h := h) hB hS q hT hC (semi _ (tdVr_ok hS (hS.lt hi.2.2 h0 (by rw [q]; decide))) hE)
end
