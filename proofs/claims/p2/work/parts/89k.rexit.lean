/-! the reference: exit, trap -/
section
variable {b : Nat → Int32} {n s m : Nat} {τ : Td} {K : List KE} {σ : PS} {M M' : Mem} {i o h : Nat} {Q : Option Value → Mem → Prop}
theorem RPd.na {k : Nat} {v : Int64} (hd : RPd m τ K σ M) : RPd m τ K ((σ.1.1, σ.1.2.1, va_up σ.1.2.2 k v), σ.2) (wAJ M 72 k v) := by
  obtain ⟨d1, d2, d3, d4, d5, d6, d7, d8, d9⟩ := hd
  refine ⟨d1.fr rfl rfl (show up2 (mAJ M) 72 k v 50 = mAJ M 50 from up2_row (by decide)) rfl, d2.fr rfl rfl rfl rfl rfl, d3, ?_, d5, d6, d7.fr rfl rfl, d8.fr rfl rfl, d9.fr rfl rfl⟩
  show up2 (mAJ M) 72 k v 72 = va_up σ.1.2.2 k v
  funext j
  unfold up2 va_up
  by_cases q : j = k
  · rw [if_pos ⟨rfl, q⟩, if_pos q]
  · rw [if_neg (fun z => q z.2), if_neg q, d4]
theorem RPs.na {k : Nat} {v : Int64} (hR : RPs b n s m τ K σ M i o) (hk : 40 * m ≤ k) : RPs b n s m τ K ((σ.1.1, σ.1.2.1, va_up σ.1.2.2 k v), σ.2) (wAJ M 72 k v) i o ∧ RGp m M (wAJ M 72 k v) := by
  obtain ⟨c1, c2, c3, c4, c5, c6, c7⟩ := hR
  have g : RGp m M (wAJ M 72 k v) := RG.aj (by decide) (by rw [sz_p (by decide) (by decide)]; exact hk)
  exact ⟨⟨c1.rg g, c2, c3, c4, c5, c6.na, c7⟩, g⟩
theorem P_exit {j : Nat} {w : Int64} (hR : RPs b n s m τ K σ M i o) (hB : By b) (hz : ∀ i, n ≤ i → b i = 0) (hS : Sto b n s) (h0 : tK b n i ≠ 0) (hj : j < 40) (hK : KNm b n m σ K) (hp : npS σ ≤ 40) (hl : K.length ≤ 15) (hE : EndQ b n s m τ K o M (fun x => x.1) (fun M' => Q none M') (lfM b n m τ 57 w j i K σ)) : E (h + 4) mdX11_exitOf [.ref 29, .int (Int32.ofNat (40 * m + j))] M Q := by
  obtain ⟨c1, c2, c3, c4, c5, c6, c7⟩ := id hR
  have F := c1.1
  have tk := hR.tk hB
  have h4 := c1.2.2.2.1
  have l40 := lt40 h4 hj
  have vi : ∀ {N : Mem} {c : Nat}, mL N c = 802 → vp_in (Int32.ofNat i) (mL N c) := fun e => by rw [e]; exact vp_of (by omega) (by decide)
  have zk : ∀ {c : Nat}, 58 ≤ c → c ≤ 72 → szA c * m ≤ 40 * m + j := fun a c => by rw [sz_p a c]; omega
  have hE : EndQ b n s m τ K o M (fun x => x.1) (fun M' => Q none M') (if tK b n i = 2 then (match trW K (tC b n i) with
      | none => .error (4, tP b n i)
      | some q => (adv' b n i).bind fun i2 => .ok (i2, trP1 (raP σ (up2 σ.1.2.1 60 (40 * m + j) (Int32.ofNat q.2))) (exT (trS σ) q.1).1, (exT (trS σ) q.1).2))
    else .error (2, tP b n i)) := hE
  have tn := trI_none (c := tC b n i) hK h4 hp
  refine KX11_exitOf ?_
  unfold DX11_exitOf_0 DX11_exitOf_81
  by_cases k2 : tK b n i = 2
  · rw [if_pos k2] at hE
    have hs := hS.lt c2.2.2 h0 (by rw [k2]; decide)
    refine ⟨ok29 F, K_name (h := h + 1) tk (fun _ _ => ⟨_, rfl, fun _ => ?_, fun z => absurd z (by decide)⟩) (fun z => absurd k2 z)⟩
    rw [c3, lt32 (n := i) (by omega)]
    refine ⟨33, rf29_4 F, ok33 F, vi (ln33 F), P_trapNamed (h := h + 2) hR hK hp hl (tk.nm k2) (fun _ => ⟨_, rfl, fun nn => ?_, fun yy => ?_⟩)⟩
    · refine ⟨60, rf29_40 F, 33, rf29_4 F, ok33 F, by rw [c3]; exact vi (ln33 F), ?_⟩
      rw [c3, lt32 (n := i) (by omega), l40]
      refine P_trapNamed (h := h + 2) hR hK hp hl (tk.nm k2) (fun _ => ⟨_, rfl, ok60 F, ix40 h4 hj (ln60 F), fun M4 e4 => ?_⟩)
      cases et : trW K (tC b n i) with
      | none => exact absurd (tn.mpr (by rw [et]; rfl)) nn
      | some q =>
        rw [et] at hE
        have ei : trI K (tC b n i) = Int32.ofNat q.2 := by unfold trI; rw [et]
        rw [ei] at e4
        have s4 := hR.ra (c := 60) (k := 40 * m + j) (v := Int32.ofNat q.2) (by decide) (by decide) (by decide) (zk (by decide) (by decide))
        rw [← e4] at s4
        have G4 : RGp m M M4 := by rw [e4]; exact RGp.ra (by decide) (by decide) (by decide) (zk (by decide) (by decide))
        have hE : EndQ b n s m τ K o M (fun x => x.1) (fun M' => Q none M') ((adv' b n i).bind fun i2 => .ok (i2, trP1 (raP σ (up2 σ.1.2.1 60 (40 * m + j) (Int32.ofNat q.2))) (exT (trS σ) q.1).1, (exT (trS σ) q.1).2)) := hE
        refine P_take (h := h + 1) s4 hB hz hs (by rw [k2]; decide) (fun k1 M5 R5 G5 _ => ⟨rfl, ?_⟩) (fun k1 M5 T5 G5 _ => ⟨rfl, ?_⟩)
        · rw [adv_ok' k1] at hE; exact hE M5 R5 (G4.tr G5)
        · rw [adv_er' k1] at hE; exact hE M5 T5 (G4.tr G5)
    · cases et : trW K (tC b n i) with
      | some q => have z := tn.mp yy; rw [et] at z; exact absurd z (by simp)
      | none =>
        rw [et] at hE
        exact P_failsA (h := h + 2) (H2 := fun M' => Q none M') hR hB (by decide) (fun M' T' G' => hE M' T' G')
  · rw [if_neg k2] at hE
    exact ⟨ok29 F, K_name (h := h + 1) tk (fun z => absurd z k2) (fun _ _ => ⟨_, rfl, fun z => absurd rfl z, fun _ => P_failsA (h := h + 2) (H2 := fun M' => Q none M') hR hB (by decide) (fun M' T' G' => hE M' T' G')⟩)⟩
theorem P_trap {j : Nat} (hR : RPs b n s m τ K σ M i o) (hB : By b) (hz : ∀ i, n ≤ i → b i = 0) (hS : Sto b n s) (h0 : tK b n i ≠ 0) (hj : j < 40) (hK : KNm b n m σ K) (hp : npS σ ≤ 40) (hl : K.length ≤ 15) (hE : EndQ b n s m τ K o M (fun x => x.1) (fun M' => Q none M') (hdM b n m τ 55 j i K σ)) : E (h + 4) mdX11_trapOf [.ref 29, .int (Int32.ofNat (40 * m + j))] M Q := by
  obtain ⟨c1, c2, c3, c4, c5, c6, c7⟩ := id hR
  have F := c1.1
  have tk := hR.tk hB
  have h4 := c1.2.2.2.1
  have l40 := lt40 h4 hj
  have vi : ∀ {N : Mem} {c : Nat}, mL N c = 802 → vp_in (Int32.ofNat i) (mL N c) := fun e => by rw [e]; exact vp_of (by omega) (by decide)
  have nS := oi_none (o := fd τ.1 (tC b n i)) (k := 0) (fun x hx => by have := (fd_some hx).1; have := c1.2.2.2.2.1.1; omega)
  have nV := oi_none (o := fd τ.2.2.2.1 (tC b n i)) (k := 0) (fun x hx => by have := (fd_some hx).1; have := c1.2.2.2.2.1.2.2.2; omega)
  have hE : EndQ b n s m τ K o M (fun x => x.1) (fun M' => Q none M') (if tK b n i = 2 then (if toT (tC b n i) τ = true ∨ (trW K (tC b n i)).isSome = true then .error (3, tP b n i) else (adv' b n i).bind fun i2 => (ex b n i2 56).bind fun i3 => .ok (i3, ((σ.1.1, σ.1.2.1, va_up σ.1.2.2 (40 * m + j) (rV b n (tP b n i))), σ.2), 0, false, 0, some (tC b n i))) else .error (2, tP b n i)) := hE
  refine KX11_trapOf ?_
  unfold DX11_trapOf_0 DX11_trapOf_118
  by_cases k2 : tK b n i = 2
  · rw [if_pos k2] at hE
    have hs := hS.lt c2.2.2 h0 (by rw [k2]; decide)
    have f3 : (toT (tC b n i) τ = true ∨ (trW K (tC b n i)).isSome = true) → DX11_trapOf_74 (h + 3) 29 M Q := by
      intro q
      rw [if_pos q] at hE
      unfold DX11_trapOf_74 DX11_trapOf_118
      exact ⟨ok29 F, P_failsA (h := h + 2) (H2 := fun M' => Q none M') hR hB (by decide) (fun M' T' G' => hE M' T' G')⟩
    refine ⟨ok29 F, K_name (h := h + 1) tk (fun _ _ => ⟨_, rfl, fun _ => ?_, fun z => absurd z (by decide)⟩) (fun z => absurd k2 z)⟩
    rw [c3, lt32 (n := i) (by omega)]
    refine ⟨33, rf29_4 F, ok33 F, vi (ln33 F), R_sigNamed (h := h + 2) F c1.2.2 (tk.nm k2) (fun _ => ⟨_, rfl, fun q => f3 (Or.inl ?_), fun q => ?_⟩)⟩
    · unfold toT
      cases e : fd τ.1 (tC b n i) with
      | none => exact absurd (nS.mpr e) q
      | some x => rfl
    · have e1 := nS.mp q
      rw [c3, lt32 (n := i) (by omega)]
      refine ⟨33, rf29_4 F, ok33 F, vi (ln33 F), R_varNamed (h := h + 2) F c1.2.2 (tk.nm k2) (fun _ => ⟨_, rfl, fun q2 => f3 (Or.inl ?_), fun q2 => ?_⟩)⟩
      · unfold toT
        cases e : fd τ.2.2.2.1 (tC b n i) with
        | none => exact absurd (nV.mpr e) q2
        | some x => rw [e1]; rfl
      · have e2 := nV.mp q2
        have nt : toT (tC b n i) τ = false := by unfold toT; rw [e1, e2]; rfl
        rw [c3, lt32 (n := i) (by omega)]
        refine ⟨33, rf29_4 F, ok33 F, vi (ln33 F), P_isOpenTrap (h := h + 1) hR hK hp hl (tk.nm k2) (fun _ => ⟨_, rfl, fun q3 => ?_, fun q3 => f3 (Or.inr ?_)⟩)⟩
        · have ns : ¬ (toT (tC b n i) τ = true ∨ (trW K (tC b n i)).isSome = true) := by
            intro z
            rcases z with z | z
            · rw [nt] at z; cases z
            · rw [if_pos z] at q3; exact absurd q3 (by decide)
          rw [if_neg ns] at hE
          refine ⟨72, rf29_52 F, 33, rf29_4 F, ok33 F, by rw [c3]; exact vi (ln33 F), ok72 F, ix40 h4 hj (ln72 F), fun M4 e4 => ?_⟩
          rw [c3, lt32 (n := i) (by omega), l40, (c1.2.1 i c2.2.2).2.2] at e4
          have s4 := hR.na (k := 40 * m + j) (v := rV b n (tP b n i)) (by omega)
          rw [← e4] at s4
          obtain ⟨s4, G4⟩ := s4
          refine P_take (h := h + 1) s4 hB hz hs (by rw [k2]; decide) (fun k1 M5 R5 G5 _ => ⟨rfl, ?_⟩) (fun k1 M5 T5 G5 _ => ⟨rfl, X_want (h := h + 2) T5 (fun _ => ⟨rfl, ?_⟩)⟩)
          · rw [adv_ok' k1] at hE
            have hE : EndQ b n s m τ K o M (fun x => x.1) (fun M' => Q none M') ((ex b n (i + 1) 56).bind fun i3 => .ok (i3, ((σ.1.1, σ.1.2.1, va_up σ.1.2.2 (40 * m + j) (rV b n (tP b n i))), σ.2), 0, false, 0, some (tC b n i))) := hE
            refine P_wantW (h := h) (k := 56) (j := 26) R5 hB hz hS k1 (by decide) (by decide) (by decide) ?_
            cases ew : ex b n (i + 1) 56 with
            | error y => rw [ew] at hE; exact fun M6 T6 G6 _ => ⟨rfl, hE M6 T6 ((G4.tr G5).tr G6)⟩
            | ok i3 => rw [ew] at hE; exact fun M6 R6 G6 _ => ⟨rfl, hE M6 R6 ((G4.tr G5).tr G6)⟩
          · rw [adv_er' k1] at hE
            exact hE M5 T5 (G4.tr G5)
        · cases w : (trW K (tC b n i)).isSome with
          | true => rfl
          | false => rw [w] at q3; exact absurd rfl q3
  · rw [if_neg k2] at hE
    exact ⟨ok29 F, K_name (h := h + 1) tk (fun z => absurd z k2) (fun _ _ => ⟨_, rfl, fun z => absurd rfl z, fun _ => P_failsA (h := h + 2) (H2 := fun M' => Q none M') hR hB (by decide) (fun M' T' G' => hE M' T' G')⟩)⟩
end
