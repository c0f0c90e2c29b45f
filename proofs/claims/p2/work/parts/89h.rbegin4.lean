/-! the reference: a part begins, or not -/
theorem nm17 : ∀ x : Fin 17, Int32.ofNat x ≠ -1 := by decide
section
variable {b : Nat → Int32} {n s m : Nat} {τ : Td} {K : List KE} {σ : PS} {M M' : Mem} {i o h : Nat} {Q : Option Value → Mem → Prop}
theorem beg131 {q : Nat} (hR : RPs b n s m τ K σ M i o) (hB : By b) (hz : ∀ i, n ≤ i → b i = 0) (hs : i < s) (h1 : tK b n i ≠ 1) (hq : q < 100) (hp : PsOk m σ) (hn : npS σ < 40) (hqq : q < σ.1.1 4) (hso : soK (tK b n i) ≠ 99) (ho' : o + (if opnK (tK b n i) = true then 1 else 0) ≤ 15) (hK : K.length ≤ 15) (hE : EndG b n s m τ K (bgP m (tK b n i) (tP b n i) q K.length (whK (tK b n i) (tC b n i) τ) σ) i (o + (if opnK (tK b n i) = true then 1 else 0)) (npS σ) M Q) : DX11_beginPart_131 (h + 2) 29 (Int32.ofNat q) (Int32.ofNat (soK (tK b n i))) M Q := by
  have F := hR.1.1
  have h4 := hR.1.2.2.2.1
  have m19 := hR.1.2.2.1
  have sf := soK_facts hso
  have d := hR.2.2.2.2.2.1.2.2.2.2.1
  have vm : ∀ {N : Mem} {c : Nat}, mL N c = 4 → vp_in (Int32.ofNat m) (mL N c) := fun e => by rw [e]; exact vp_of h4 (by decide)
  have eP : (40 : Int32) * Int32.ofNat m + mAI M 54 m = Int32.ofNat (40 * m + npS σ) := off32 (a := 40) d.1
  unfold DX11_beginPart_131
  rw [m19, lt32 (n := m) (by omega)]
  refine ⟨ok29 F, 54, rf29_34 F, ok54 F, vm (ln54 F), 54, rf29_34 F, ok54 F, vm (ln54 F), vm (ln54 F), fun M6 e6 => ?_⟩
  rw [d.1, succ32] at e6
  have r6 := hR.cn (t := 0) (v := σ.1.1 0 + 1) (by decide)
  rw [← e6] at r6
  have F6 := r6.1.1
  have m6 := r6.1.2.2.1
  have d6 := r6.2.2.2.2.2.1.2.2.2.2.1
  rw [m6, lt32 (n := m) (by omega)]
  refine ⟨55, rf29_35 F6, ok55 F6, vm (ln55 F6), P_pausesOf (h := h) sf.1 (fun _ => ⟨_, rfl, vm (ln55 F6), fun M11 e11 => ?_⟩)⟩
  have u1 : va_up σ.1.1 0 (σ.1.1 0 + 1) 1 = σ.1.1 1 := va_up_ne _ _ (by decide)
  have d61 : mAI M6 55 m = Int32.ofNat (σ.1.1 1) := d6.2.1.trans (congrArg Int32.ofNat u1)
  rw [d61, add32, ← sf.2.2.1] at e11
  have r11 := r6.cn (t := 1) (v := σ.1.1 1 + paK (tK b n i)) (by decide)
  rw [← e11] at r11
  have F11 := r11.1.1
  have m11 := r11.1.2.2.1
  have G11 : RGp m M M11 := by rw [e11, e6]; exact (RGp.cn (t := 0) (by decide)).tr (RGp.cn (t := 1) (by decide))
  have d11 := r11.2.2.2.2.2.1.2.2.2.2.1.2.2.1
  have u2 : va_up (va_up σ.1.1 0 (σ.1.1 0 + 1)) 1 (σ.1.1 1 + paK (tK b n i)) 2 = σ.1.1 2 := (va_up_ne _ _ (by decide)).trans (va_up_ne _ _ (by decide))
  have u3 : va_up (va_up σ.1.1 0 (σ.1.1 0 + 1)) 1 (σ.1.1 1 + paK (tK b n i)) 3 = σ.1.1 3 := (va_up_ne _ _ (by decide)).trans (va_up_ne _ _ (by decide))
  have hx : σ.1.2.1 73 q = -1 ∨ ∃ x, (40 * m ≤ x ∧ x < 160) ∧ σ.1.2.1 74 q = Int32.ofNat x := by
    rcases hp.2.2.2.2 q hqq with w | ⟨x, hx, ex⟩
    · exact Or.inl w
    · exact Or.inr ⟨x, ⟨hx.1, by omega⟩, ex⟩
  have e14 : (Int32.ofNat (soK (tK b n i)) = 14) ↔ tK b n i = 58 := (z32 (a := soK (tK b n i)) (k := 14) (by have := sf.1; omega) (by decide)).trans sf.2.2.2.2.1
  have E11 := hE.pre G11
  have fin : ∀ (v : Nat) (s3 : Int32), Int32.ofNat (σ.1.1 2) + s3 = Int32.ofNat v → v = σ.1.1 2 + (if tK b n i = 58 then 1 else 0) → DX11_beginPart_199 (h + 2) 29 (Int32.ofNat q) (Int32.ofNat (soK (tK b n i))) (Int32.ofNat (40 * m + npS σ)) 56 (Int32.ofNat m) (Int32.ofNat (σ.1.1 2)) s3 M11 Q := by
    intro v s3 hv ev
    have X := beg199 (h := h) (j := npS σ) (s3 := s3) (v := v) (Q := Q) r11 hB hz hs h1 hq hn hso hx ho' hK (by show va_up (va_up σ.1.1 0 (σ.1.1 0 + 1)) 1 (σ.1.1 1 + paK (tK b n i)) 3 ≤ 16; rw [u3]; exact hp.2.2.2.1) (by show Int32.ofNat (va_up (va_up σ.1.1 0 (σ.1.1 0 + 1)) 1 (σ.1.1 1 + paK (tK b n i)) 2) + s3 = _; rw [u2]; exact hv)
    have X2 := X (by
      show EndG b n s m τ K ((va_up (va_up (va_up (va_up σ.1.1 0 (σ.1.1 0 + 1)) 1 (σ.1.1 1 + paK (tK b n i))) 2 v) 3 (if K.length + 1 ≤ va_up (va_up σ.1.1 0 (σ.1.1 0 + 1)) 1 (σ.1.1 1 + paK (tK b n i)) 3 then va_up (va_up σ.1.1 0 (σ.1.1 0 + 1)) 1 (σ.1.1 1 + paK (tK b n i)) 3 else K.length + 1), bgA (40 * m + npS σ) (soK (tK b n i)) (tP b n i) q (whK (tK b n i) (tC b n i) τ) σ.1.2.1, σ.1.2.2), σ.2) i (o + (if opnK (tK b n i) = true then 1 else 0)) (npS σ) M11 Q
      rw [u3, ev]
      exact ⟨fun k1 M' R' G' => E11.1 k1 M' R' G', E11.2⟩)
    have X2 : DX11_beginPart_199 (h + 2) 29 (Int32.ofNat q) (Int32.ofNat (soK (tK b n i))) (Int32.ofNat (40 * m + npS σ)) 56 (Int32.ofNat m) (Int32.ofNat (va_up (va_up σ.1.1 0 (σ.1.1 0 + 1)) 1 (σ.1.1 1 + paK (tK b n i)) 2)) s3 M11 Q := X2
    rw [u2] at X2
    exact X2
  have d11b : mAI M11 56 m = Int32.ofNat (σ.1.1 2) := d11.trans (congrArg Int32.ofNat u2)
  rw [m11, eP, lt32 (n := m) (by omega)]
  refine ⟨56, rf29_36 F11, ok56 F11, vm (ln56 F11), ?_⟩
  rw [d11b]
  refine ⟨fun nn => fin (σ.1.1 2 + 0) 0 (add32 (c := 0)) (by rw [if_neg (fun z => nn (e14.mpr z))]), fun yy => fin (σ.1.1 2 + 1) 1 succ32 (by rw [if_pos (e14.mp yy)])⟩
theorem P_begin {q : Nat} (hR : RPs b n s m τ K σ M i o) (ho : o = K.length) (hB : By b) (hz : ∀ i, n ≤ i → b i = 0) (hS : Sto b n s) (h0 : tK b n i ≠ 0) (hp : PsOk m σ) (hK : K.length ≤ 15) (hqq : q < σ.1.1 4) (hq : q < 100) (Her : ∀ e, okK (tK b n i) (tC b n i) K.length τ σ (tP b n i) = .error e → ∀ M', TXr M' e.1 e.2 → RGp m M M' → Q (some (.int (-1))) M') (Hok : okK (tK b n i) (tC b n i) K.length τ σ (tP b n i) = .ok () → EndG b n s m τ K (bgP m (tK b n i) (tP b n i) q K.length (whK (tK b n i) (tC b n i) τ) σ) i (o + (if opnK (tK b n i) = true then 1 else 0)) (npS σ) M Q) : E (h + 4) mdX11_beginPart [.ref 29, .int (Int32.ofNat q)] M Q := by
  have F := hR.1.1
  have h4 := hR.1.2.2.2.1
  have m19 := hR.1.2.2.1
  have d := hR.2.2.2.2.2.1.2.2.2.2.1
  have tk := hR.tk hB
  have hi := hR.2.1
  have vm : ∀ {N : Mem} {c : Nat}, mL N c = 4 → vp_in (Int32.ofNat m) (mL N c) := fun e => by rw [e]; exact vp_of h4 (by decide)
  -- the checks that count
  have six : ∀ (hso : soK (tK b n i) ≠ 99), ¬ (tK b n i = 2 ∧ fd τ.2.2.2.1 (tC b n i) = none) → DX11_beginPart_65 (h + 3) 29 (Int32.ofNat q) (Int32.ofNat (soK (tK b n i))) M Q := by
    intro hso h2
    have sf := soK_facts hso
    have n1 : tK b n i ≠ 1 := fun z => hso (by rw [z]; exact soK_1)
    have hs := hS.lt hi.2.2 h0 n1
    have bad : (40 ≤ npS σ ∨ 24 < σ.1.1 1 + paK (tK b n i)) ∨ (opnK (tK b n i) = true ∧ K.length = 15) → DX11_beginPart_114 (h + 3) 29 M Q := by
      intro hbad
      unfold DX11_beginPart_114
      refine ⟨ok29 F, P_failsA (h := h + 2) (H2 := fun M' => Q (some (.int (-1))) M') hR hB (by decide) (fun M' T' G' => Her (6, tP b n i) ?_ M' T' G')⟩
      unfold okK
      rw [if_neg h2, if_neg hso]
      by_cases z : 40 ≤ npS σ ∨ 24 < σ.1.1 1 + paK (tK b n i)
      · rw [if_pos z]
      · rw [if_neg z, if_pos (hbad.resolve_left z)]
    have good : ¬ (40 ≤ npS σ ∨ 24 < σ.1.1 1 + paK (tK b n i)) → ¬ (opnK (tK b n i) = true ∧ K.length = 15) → DX11_beginPart_131 (h + 3) 29 (Int32.ofNat q) (Int32.ofNat (soK (tK b n i))) M Q := by
      intro g1 g2
      refine beg131 (h := h + 1) hR hB hz hs n1 hq hp (by omega) hqq hso ?_ hK (Hok ?_)
      · by_cases w : opnK (tK b n i) = true
        · rw [if_pos w]
          have : K.length ≠ 15 := fun z => g2 ⟨w, z⟩
          omega
        · rw [if_neg w]; omega
      · unfold okK
        rw [if_neg h2, if_neg hso, if_neg g1, if_neg g2]
    unfold DX11_beginPart_65
    rw [m19, lt32 (n := m) (by omega)]
    refine ⟨ok29 F, 54, rf29_34 F, ok54 F, vm (ln54 F), ?_⟩
    have h40 := hp.1
    have h24 := hp.2.1
    have c40 : (Int32.ofNat (npS σ) = 40) ↔ npS σ = 40 := z32 (a := npS σ) (k := 40) (by omega) (by decide)
    have hpa : paK (tK b n i) ≤ 3 := by unfold paK; split; omega; split <;> omega
    have c24 : ((24 : Int32) < Int32.ofNat (σ.1.1 1 + paK (tK b n i))) ↔ 24 < σ.1.1 1 + paK (tK b n i) := ltn32 (a := 24) (by decide) (by omega)
    have d0 : mAI M 54 m = Int32.ofNat (npS σ) := d.1
    rw [d0]
    refine ⟨fun y => bad (Or.inl (Or.inl (by have := c40.mp y; omega))), fun nn => ⟨55, rf29_35 F, ok55 F, vm (ln55 F), P_pausesOf (h := h + 1) sf.1 (fun _ => ⟨_, rfl, ?_⟩)⟩⟩
    rw [d.2.1, add32, ← sf.2.2.1]
    refine ⟨fun y => bad (Or.inl (Or.inr (c24.mp y))), fun n24 => P_isOp (h := h + 1) sf.1 (fun y _ => ⟨_, rfl, fun z => absurd z (by decide), fun _ => ?_⟩) (fun y _ => ⟨_, rfl, fun _ => ?_, fun z => absurd rfl z⟩)⟩
    · have yo := sf.2.1.mpr y
      have c15 : (Int32.ofNat o = 15) ↔ o = 15 := z32 (a := o) (k := 15) (by omega) (by decide)
      rw [hR.2.2.2.2.1]
      refine ⟨fun z => good (fun w => ?_) (fun w => z (c15.mpr (ho.trans w.2))), fun z => bad (Or.inr ⟨yo, ho ▸ c15.mp z⟩)⟩
      rcases w with w | w
      · exact nn (c40.mpr (by omega))
      · exact n24 (c24.mpr w)
    · have no : ¬ opnK (tK b n i) = true := fun z => y (sf.2.1.mp z)
      refine good (fun w => ?_) (fun w => no w.1)
      rcases w with w | w
      · exact nn (c40.mpr (by omega))
      · exact n24 (c24.mpr w)
  have n15 : ∀ hso : soK (tK b n i) ≠ 99, soI (tK b n i) = Int32.ofNat (soK (tK b n i)) := fun hso => (soK_facts hso).2.2.2.1
  have neg1 : soI (tK b n i) = -1 → soK (tK b n i) = 99 := fun z => by
    by_cases w : soK (tK b n i) = 99
    · exact w
    · have := (soK_facts w).1
      rw [n15 w] at z
      exact absurd z (nm17 ⟨soK (tK b n i), by omega⟩)
  refine KX11_beginPart ?_
  unfold DX11_beginPart_0
  refine ⟨ok29 F, P_sortOf (h := h) tk (fun _ => ⟨_, rfl, fun nm => ?_, fun ym => ?_⟩)⟩
  · have hso : soK (tK b n i) ≠ 99 := fun z => nm (by unfold soI; rw [if_pos z])
    have sf := soK_facts hso
    rw [n15 hso]
    have e15 : (Int32.ofNat (soK (tK b n i)) = 15) ↔ tK b n i = 2 := (z32 (a := soK (tK b n i)) (k := 15) (by have := sf.1; omega) (by decide)).trans sf.2.2.2.2.2
    refine ⟨fun nn => six hso (fun z => nn (e15.mpr z.1)), fun yy => ⟨33, rf29_4 F, ok33 F, by rw [ln33 F, hR.2.2.1]; exact vp_of (by omega) (by decide), ?_⟩⟩
    have k2 := e15.mp yy
    rw [hR.2.2.1, lt32 (by omega)]
    refine R_varNamed (h := h + 2) F hR.1.2.2 (tk.nm k2) (fun _ => ⟨_, rfl, fun z => six hso (fun w => z (by rw [w.2]; rfl)), fun z => ?_⟩)
    have hnone : fd τ.2.2.2.1 (tC b n i) = none := (oi_none (k := 0) (fun j hj => by have := (fd_some hj).1; have := hR.1.2.2.2.2.1.2.2.2; omega)).mp z
    exact P_failsA (h := h + 2) (H2 := fun M' => Q (some (.int (-1))) M') hR hB (by decide) (fun M' T' G' => Her (4, tP b n i) (by unfold okK; rw [if_pos ⟨k2, hnone⟩]) M' T' G')
  · have z := neg1 ym
    have n2 : ¬ (tK b n i = 2 ∧ fd τ.2.2.2.1 (tC b n i) = none) := fun w => by rw [w.1] at z; exact absurd z (by decide)
    exact P_failsA (h := h + 2) (H2 := fun M' => Q (some (.int (-1))) M') hR hB (by decide) (fun M' T' G' => Her (2, tP b n i) (by unfold okK; rw [if_neg n2, if_pos z]) M' T' G')
end
