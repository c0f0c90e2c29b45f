/-! the reference: the head of a part with rows -/
section
variable {b : Nat → Int32} {n s m : Nat} {τ : Td} {K : List KE} {σ : PS} {M M' : Mem} {i o h : Nat} {Q : Option Value → Mem → Prop}
theorem P_headO {k : Int32} {j : Nat} (hR : RPs b n s m τ K σ M i o) (ho : o = K.length + 1) (hB : By b) (hz : ∀ i, n ≤ i → b i = 0) (hS : Sto b n s) (h0 : tK b n i ≠ 0) (hj : j < 40) (hK : KNm b n m σ K) (hp : npS σ ≤ 40) (hl : K.length ≤ 15) (hso : soK k ≠ 99) (hopn : opnK k = true) (h58 : σ.1.2.1 58 (40 * m + j) = Int32.ofNat (soK k)) (hE : EndQ b n s m τ K o M (fun x => x.1) (fun M' => Q none M') (hdM b n m τ k j i K σ)) : E (h + 9) mdX11_headOf [.ref 29, .int (Int32.ofNat (40 * m + j))] M Q := by
  obtain ⟨c1, c2, c3, c4, c5, c6, c7⟩ := id hR
  have F := c1.1
  have h4 := c1.2.2.2.1
  have l40 := lt40 h4 hj
  have a58 : mAI M 58 (40 * m + j) = Int32.ofNat (soK k) := by rw [c6.2.2.1 58 (by decide) (by decide) (by decide)]; exact h58
  refine KX11_headOf ?_
  unfold DX11_headOf_0 DX11_headOf_172
  rw [l40]
  refine ⟨ok29 F, 58, rf29_38 F, ok58 F, ix40 h4 hj (ln58 F), ?_⟩
  rw [a58]
  rcases soK_cases hso with z | z | z | z | z | z | z | z | z | z | z | z | z | z | z | z | z
  · subst z; exact absurd hopn (by decide)
  · subst z; exact absurd hopn (by decide)
  · subst z; exact absurd hopn (by decide)
  · subst z; exact absurd hopn (by decide)
  · subst z; exact absurd hopn (by decide)
  · -- loop
    subst z
    have hE : EndQ b n s m τ K o M (fun x => x.1) (fun M' => Q none M') (.ok (i, σ, 0, false, 0, none)) := hE
    have q := hE M hR RG.rf
    refine ⟨fun y => ?_, fun y => ?_, fun y => ?_, fun y => ?_, fun y => ?_, fun y => ?_, fun y => ?_, fun y => ?_, fun y => ?_, fun y => ?_, fun y => ?_, fun y => ?_, fun y => ?_, fun y => ?_⟩ <;> first | exact absurd y (by decide) | exact q
  · -- present
    subst z
    have hE : EndQ b n s m τ K o M (fun x => x.1) (fun M' => Q none M') ((coM b n m τ j i (K.length + 1) σ).bind fun r => (ex b n r.1 45).bind fun i2 => .ok (i2, r.2.1, r.2.2, false, 0, none)) := hE
    rw [← ho] at hE
    have cok := coM_ok (F := True) (m := m) (τ := τ) (j := j) (o := o) (σ := σ) hS c2.2.2 h0
    have q : E (h + 8) mdX11_condOf [.ref 29, .int (Int32.ofNat (40 * m + j))] M (fun r M6 => mE M M6 → r = none ∧ E (h + 8) mdX11_want [.ref 29, .int 1, .long 399641] M6 (fun r M7 => mE M6 M7 → r = none ∧ Q none M7)) := by
      refine P_cond (h := h + 2) hR hB hz hS h0 hj ?_
      cases e : coM b n m τ j i o σ with
      | error y => rw [e] at hE; exact fun M4 T4 G4 _ => ⟨rfl, X_want (h := h + 7) T4 (fun _ => ⟨rfl, hE M4 T4 G4⟩)⟩
      | ok r =>
        rw [e] at hE cok
        intro M4 R4 G4 _
        refine ⟨rfl, P_wantW (h := h + 5) (k := 45) (j := 15) R4 hB hz hS cok.2.2.1 (by decide) (by decide) (by decide) ?_⟩
        have hE : EndQ b n s m τ K o M (fun x => x.1) (fun M' => Q none M') ((ex b n r.1 45).bind fun i2 => .ok (i2, r.2.1, r.2.2, false, 0, none)) := hE
        cases ew : ex b n r.1 45 with
        | error y => rw [ew] at hE; exact fun M5 T5 G5 _ => ⟨rfl, hE M5 T5 (G4.tr G5)⟩
        | ok i2 => rw [ew] at hE; exact fun M5 R5 G5 _ => ⟨rfl, hE M5 R5 (G4.tr G5)⟩
    refine ⟨fun y => ?_, fun y => ?_, fun y => ?_, fun y => ?_, fun y => ?_, fun y => ?_, fun y => ?_, fun y => ?_, fun y => ?_, fun y => ?_, fun y => ?_, fun y => ?_, fun y => ?_, fun y => ?_⟩ <;> first | exact absurd y (by decide) | exact q
  · subst z; exact absurd hopn (by decide)
  · -- abort
    subst z
    have hE : EndQ b n s m τ K o M (fun x => x.1) (fun M' => Q none M') (.ok (i, σ, 0, false, 0, some (0 : Int64))) := hE
    have q := hE M hR RG.rf
    refine ⟨fun y => ?_, fun y => ?_, fun y => ?_, fun y => ?_, fun y => ?_, fun y => ?_, fun y => ?_, fun y => ?_, fun y => ?_, fun y => ?_, fun y => ?_, fun y => ?_, fun y => ?_, fun y => ?_⟩ <;> first | exact absurd y (by decide) | exact q
  · -- weak
    subst z
    have hE : EndQ b n s m τ K o M (fun x => x.1) (fun M' => Q none M') ((ex b n i 49).bind fun i2 => .ok (i2, σ, 0, false, 0, some (0 : Int64))) := hE
    have q : E (h + 8) mdX11_want [.ref 29, .int 1, .long 582248] M (fun r M4 => mE M M4 → r = none ∧ Q none M4) := by
      refine P_wantW (h := h + 5) (k := 49) (j := 19) hR hB hz hS h0 (by decide) (by decide) (by decide) ?_
      cases e : ex b n i 49 with
      | error y => rw [e] at hE; exact fun M4 T4 G4 _ => ⟨rfl, hE M4 T4 G4⟩
      | ok r => rw [e] at hE; exact fun M4 R4 G4 _ => ⟨rfl, hE M4 R4 G4⟩
    refine ⟨fun y => ?_, fun y => ?_, fun y => ?_, fun y => ?_, fun y => ?_, fun y => ?_, fun y => ?_, fun y => ?_, fun y => ?_, fun y => ?_, fun y => ?_, fun y => ?_, fun y => ?_, fun y => ?_⟩ <;> first | exact absurd y (by decide) | exact q
  · -- suspend
    subst z
    have hE : EndQ b n s m τ K o M (fun x => x.1) (fun M' => Q none M') (.ok (i, σ, 0, false, 0, none)) := hE
    have q := hE M hR RG.rf
    refine ⟨fun y => ?_, fun y => ?_, fun y => ?_, fun y => ?_, fun y => ?_, fun y => ?_, fun y => ?_, fun y => ?_, fun y => ?_, fun y => ?_, fun y => ?_, fun y => ?_, fun y => ?_, fun y => ?_⟩ <;> first | exact absurd y (by decide) | exact q
  · -- every
    subst z
    have hE : EndQ b n s m τ K o M (fun x => x.1) (fun M' => Q none M') ((atM b n m τ j i (K.length + 1) σ).bind fun r => (ex b n r.1 54).bind fun i2 => .ok (i2, trP1 r.2.1 (awT (trS r.2.1) (Int32.ofNat r.2.2.1) r.2.2.2).1, r.2.2.1, r.2.2.2, (awT (trS r.2.1) (Int32.ofNat r.2.2.1) r.2.2.2).2, some (0 : Int64))) := hE
    rw [← ho] at hE
    have cok := atM_ok (F := True) (m := m) (τ := τ) (j := j) (o := o) (σ := σ) hS c2.2.2 h0
    have q : E (h + 8) mdX11_atOnceOf [.ref 29, .int (Int32.ofNat (40 * m + j))] M (fun r M6 => mE M M6 → r = none ∧ E (h + 8) mdX11_want [.ref 29, .int 1, .long 123] M6 (fun r M7 => mE M6 M7 → r = none ∧ Q none M7)) := by
      refine P_at (h := h + 1) hR hB hz hS h0 hj ?_
      cases e : atM b n m τ j i o σ with
      | error y => rw [e] at hE; exact fun M4 T4 G4 _ => ⟨rfl, X_want (h := h + 7) T4 (fun _ => ⟨rfl, hE M4 T4 G4⟩)⟩
      | ok r =>
        rw [e] at hE cok
        intro M4 R4 G4 _
        refine ⟨rfl, P_wantW (h := h + 5) (k := 54) (j := 24) R4 hB hz hS cok.2.2.1 (by decide) (by decide) (by decide) ?_⟩
        have hE : EndQ b n s m τ K o M (fun x => x.1) (fun M' => Q none M') ((ex b n r.1 54).bind fun i2 => .ok (i2, trP1 r.2.1 (awT (trS r.2.1) (Int32.ofNat r.2.2.1) r.2.2.2).1, r.2.2.1, r.2.2.2, (awT (trS r.2.1) (Int32.ofNat r.2.2.1) r.2.2.2).2, some (0 : Int64))) := hE
        cases ew : ex b n r.1 54 with
        | error y => rw [ew] at hE; exact fun M5 T5 G5 _ => ⟨rfl, hE M5 T5 (G4.tr G5)⟩
        | ok i2 => rw [ew] at hE; exact fun M5 R5 G5 _ => ⟨rfl, hE M5 R5 (G4.tr G5)⟩
    refine ⟨fun y => ?_, fun y => ?_, fun y => ?_, fun y => ?_, fun y => ?_, fun y => ?_, fun y => ?_, fun y => ?_, fun y => ?_, fun y => ?_, fun y => ?_, fun y => ?_, fun y => ?_, fun y => ?_⟩ <;> first | exact absurd y (by decide) | exact q
  · -- trap
    subst z
    have q : E (h + 8) mdX11_trapOf [.ref 29, .int (Int32.ofNat (40 * m + j))] M (fun r M4 => mE M M4 → r = none ∧ Q none M4) := by
      refine P_trap (h := h + 4) hR hB hz hS h0 hj hK hp hl ?_
      cases e : hdM b n m τ 55 j i K σ with
      | error y => rw [e] at hE; exact fun M4 T4 G4 _ => ⟨rfl, hE M4 T4 G4⟩
      | ok r => rw [e] at hE; exact fun M4 R4 G4 _ => ⟨rfl, hE M4 R4 G4⟩
    refine ⟨fun y => ?_, fun y => ?_, fun y => ?_, fun y => ?_, fun y => ?_, fun y => ?_, fun y => ?_, fun y => ?_, fun y => ?_, fun y => ?_, fun y => ?_, fun y => ?_, fun y => ?_, fun y => ?_⟩ <;> first | exact absurd y (by decide) | exact q
  · subst z; exact absurd hopn (by decide)
  · -- if
    subst z
    have q : E (h + 8) mdX11_ifOf [.ref 29, .int (Int32.ofNat (40 * m + j))] M (fun r M4 => mE M M4 → r = none ∧ Q none M4) := by
      refine P_if (h := h + 1) hR ho hB hz hS h0 hj ?_
      cases e : hdM b n m τ 58 j i K σ with
      | error y => rw [e] at hE; exact fun M4 T4 G4 _ => ⟨rfl, hE M4 T4 G4⟩
      | ok r => rw [e] at hE; exact fun M4 R4 G4 _ => ⟨rfl, hE M4 R4 G4⟩
    refine ⟨fun y => ?_, fun y => ?_, fun y => ?_, fun y => ?_, fun y => ?_, fun y => ?_, fun y => ?_, fun y => ?_, fun y => ?_, fun y => ?_, fun y => ?_, fun y => ?_, fun y => ?_, fun y => ?_⟩ <;> first | exact absurd y (by decide) | exact q
  · subst z; exact absurd hopn (by decide)
  · -- branches
    subst z
    have hE : EndQ b n s m τ K o M (fun x => x.1) (fun M' => Q none M') (.ok (i, trP1 σ (mkT (trS σ) 8).1, 0, false, (mkT (trS σ) 8).2, none)) := hE
    have q := hE M hR RG.rf
    refine ⟨fun y => ?_, fun y => ?_, fun y => ?_, fun y => ?_, fun y => ?_, fun y => ?_, fun y => ?_, fun y => ?_, fun y => ?_, fun y => ?_, fun y => ?_, fun y => ?_, fun y => ?_, fun y => ?_⟩ <;> first | exact absurd y (by decide) | exact q
end
