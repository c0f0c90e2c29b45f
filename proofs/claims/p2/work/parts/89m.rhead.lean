/-! the reference: the head of a part -/
section
variable {b : Nat → Int32} {n s m : Nat} {τ : Td} {K : List KE} {σ : PS} {M M' : Mem} {i o h : Nat} {Q : Option Value → Mem → Prop}
theorem P_headL {k : Int32} {w : Int64} {j : Nat} (hR : RPs b n s m τ K σ M i o) (ho : o = K.length) (hB : By b) (hz : ∀ i, n ≤ i → b i = 0) (hS : Sto b n s) (h0 : tK b n i ≠ 0) (hj : j < 40) (hM : MxOk τ) (hK : KNm b n m σ K) (hp : npS σ ≤ 40) (hl : K.length ≤ 15) (hso : soK k ≠ 99) (hopn : opnK k = false) (h58 : σ.1.2.1 58 (40 * m + j) = Int32.ofNat (soK k)) (hE : EndQ b n s m τ K o M (fun x => x.1) (fun M' => Q none M') (lfM b n m τ k w j i K σ)) : E (h + 9) mdX11_headOf [.ref 29, .int (Int32.ofNat (40 * m + j))] M Q := by
  obtain ⟨c1, c2, c3, c4, c5, c6, c7⟩ := id hR
  have F := c1.1
  have h4 := c1.2.2.2.1
  have l40 := lt40 h4 hj
  have a58 : mAI M 58 (40 * m + j) = Int32.ofNat (soK k) := by rw [c6.2.2.1 58 (by decide) (by decide) (by decide)]; exact h58
  refine KX11_headOf ?_
  unfold DX11_headOf_0 DX11_headOf_172
  rw [l40]
  refine ⟨ok29 F, 58, rf29_38 F, ok58 F, ix40 h4 hj (ln58 F), ?_⟩
  rw [a58]
  rcases soK_cases hso with z | z | z | z | z | z | z | z | z | z | z | z | z | z | z | z | z
  · -- nothing
    subst z
    have hE : EndQ b n s m τ K o M (fun x => x.1) (fun M' => Q none M') (.ok (i, trP1 σ (mkT (trS σ) 0).1, (mkT (trS σ) 0).2)) := hE
    have q := hE M hR RG.rf
    refine ⟨fun y => ?_, fun y => ?_, fun y => ?_, fun y => ?_, fun y => ?_, fun y => ?_, fun y => ?_, fun y => ?_, fun y => ?_, fun y => ?_, fun y => ?_, fun y => ?_, fun y => ?_, fun y => ?_⟩ <;> first | exact absurd y (by decide) | exact q
  · -- pause
    subst z
    have hE : EndQ b n s m τ K o M (fun x => x.1) (fun M' => Q none M') (.ok (i, trP1 σ (paT (trS σ)).1, (paT (trS σ)).2)) := hE
    have q := hE M hR RG.rf
    refine ⟨fun y => ?_, fun y => ?_, fun y => ?_, fun y => ?_, fun y => ?_, fun y => ?_, fun y => ?_, fun y => ?_, fun y => ?_, fun y => ?_, fun y => ?_, fun y => ?_, fun y => ?_, fun y => ?_⟩ <;> first | exact absurd y (by decide) | exact q
  · -- halt
    subst z
    have hE : EndQ b n s m τ K o M (fun x => x.1) (fun M' => Q none M') (.ok (i, trP1 σ (haT (trS σ)).1, (haT (trS σ)).2)) := hE
    have q := hE M hR RG.rf
    refine ⟨fun y => ?_, fun y => ?_, fun y => ?_, fun y => ?_, fun y => ?_, fun y => ?_, fun y => ?_, fun y => ?_, fun y => ?_, fun y => ?_, fun y => ?_, fun y => ?_, fun y => ?_, fun y => ?_⟩ <;> first | exact absurd y (by decide) | exact q
  · -- emit
    subst z
    have hE : EndQ b n s m τ K o M (fun x => x.1) (fun M' => Q none M') ((emM b n m τ 40 j i K.length σ).bind fun r => .ok (r.1, trP1 r.2.1 (emT (trS r.2.1) r.2.2).1, (emT (trS r.2.1) r.2.2).2)) := hE
    rw [← ho] at hE
    have q : E (h + 8) mdX11_emitOf [.ref 29, .int (Int32.ofNat (40 * m + j))] M (fun r M4 => mE M M4 → r = none ∧ Q none M4) := by
      refine P_emit (h := h) (k := 40) hR hB hz hS h0 hj hM (Or.inl ⟨rfl, h58⟩) ?_
      cases e : emM b n m τ 40 j i o σ with
      | error y => rw [e] at hE; exact fun M4 T4 G4 _ => ⟨rfl, hE M4 T4 G4⟩
      | ok r => rw [e] at hE; exact fun M4 R4 G4 _ => ⟨rfl, hE M4 R4 G4⟩
    refine ⟨fun y => ?_, fun y => ?_, fun y => ?_, fun y => ?_, fun y => ?_, fun y => ?_, fun y => ?_, fun y => ?_, fun y => ?_, fun y => ?_, fun y => ?_, fun y => ?_, fun y => ?_, fun y => ?_⟩ <;> first | exact absurd y (by decide) | exact q
  · -- sustain
    subst z
    have hE : EndQ b n s m τ K o M (fun x => x.1) (fun M' => Q none M') ((emM b n m τ 41 j i K.length σ).bind fun r => .ok (r.1, trP1 r.2.1 (stT (trS r.2.1) r.2.2).1, (stT (trS r.2.1) r.2.2).2)) := hE
    rw [← ho] at hE
    have q : E (h + 8) mdX11_emitOf [.ref 29, .int (Int32.ofNat (40 * m + j))] M (fun r M4 => mE M M4 → r = none ∧ Q none M4) := by
      refine P_emit (h := h) (k := 41) hR hB hz hS h0 hj hM (Or.inr ⟨rfl, h58⟩) ?_
      cases e : emM b n m τ 41 j i o σ with
      | error y => rw [e] at hE; exact fun M4 T4 G4 _ => ⟨rfl, hE M4 T4 G4⟩
      | ok r => rw [e] at hE; exact fun M4 R4 G4 _ => ⟨rfl, hE M4 R4 G4⟩
    refine ⟨fun y => ?_, fun y => ?_, fun y => ?_, fun y => ?_, fun y => ?_, fun y => ?_, fun y => ?_, fun y => ?_, fun y => ?_, fun y => ?_, fun y => ?_, fun y => ?_, fun y => ?_, fun y => ?_⟩ <;> first | exact absurd y (by decide) | exact q
  · subst z; exact absurd hopn (by decide)
  · subst z; exact absurd hopn (by decide)
  · -- await
    subst z
    have hE : EndQ b n s m τ K o M (fun x => x.1) (fun M' => Q none M') ((atM b n m τ j i K.length σ).bind fun r => .ok (r.1, trP1 r.2.1 (awT (trS r.2.1) (Int32.ofNat r.2.2.1) r.2.2.2).1, (awT (trS r.2.1) (Int32.ofNat r.2.2.1) r.2.2.2).2)) := hE
    rw [← ho] at hE
    have q : E (h + 8) mdX11_atOnceOf [.ref 29, .int (Int32.ofNat (40 * m + j))] M (fun r M4 => mE M M4 → r = none ∧ Q none M4) := by
      refine P_at (h := h + 1) hR hB hz hS h0 hj ?_
      cases e : atM b n m τ j i o σ with
      | error y => rw [e] at hE; exact fun M4 T4 G4 _ => ⟨rfl, hE M4 T4 G4⟩
      | ok r => rw [e] at hE; exact fun M4 R4 G4 _ => ⟨rfl, hE M4 R4 G4⟩
    refine ⟨fun y => ?_, fun y => ?_, fun y => ?_, fun y => ?_, fun y => ?_, fun y => ?_, fun y => ?_, fun y => ?_, fun y => ?_, fun y => ?_, fun y => ?_, fun y => ?_, fun y => ?_, fun y => ?_⟩ <;> first | exact absurd y (by decide) | exact q
  · subst z; exact absurd hopn (by decide)
  · subst z; exact absurd hopn (by decide)
  · subst z; exact absurd hopn (by decide)
  · subst z; exact absurd hopn (by decide)
  · subst z; exact absurd hopn (by decide)
  · -- exit
    subst z
    have q : E (h + 8) mdX11_exitOf [.ref 29, .int (Int32.ofNat (40 * m + j))] M (fun r M4 => mE M M4 → r = none ∧ Q none M4) := by
      refine P_exit (h := h + 4) (w := w) hR hB hz hS h0 hj hK hp hl ?_
      cases e : lfM b n m τ 57 w j i K σ with
      | error y => rw [e] at hE; exact fun M4 T4 G4 _ => ⟨rfl, hE M4 T4 G4⟩
      | ok r => rw [e] at hE; exact fun M4 R4 G4 _ => ⟨rfl, hE M4 R4 G4⟩
    refine ⟨fun y => ?_, fun y => ?_, fun y => ?_, fun y => ?_, fun y => ?_, fun y => ?_, fun y => ?_, fun y => ?_, fun y => ?_, fun y => ?_, fun y => ?_, fun y => ?_, fun y => ?_, fun y => ?_⟩ <;> first | exact absurd y (by decide) | exact q
  · subst z; exact absurd hopn (by decide)
  · -- a variable is given a number
    subst z
    have hE : EndQ b n s m τ K o M (fun x => x.1) (fun M' => Q none M') ((ex b n i 5).bind fun i2 => (suM b n m τ j 64 65 5 i2 K.length (guP (paP (paP σ j 3 2) j 4 (oi (fd τ.2.2.2.1 w))) (giS σ ||| ((1 : Int32) <<< (oi (fd τ.2.2.2.1 w) &&& 31))) (usS σ))).bind fun r => .ok (r.1, trP1 r.2 (mkT (trS r.2) 0).1, (mkT (trS r.2) 0).2)) := hE
    rw [← ho] at hE
    have q : E (h + 8) mdX11_want [.ref 29, .int 3, .long 14909] M (fun r M15 => mE M M15 → r = none ∧ E (h + 8) mdX11_sumOf [.ref 29, .int (Int32.ofNat (40 * m + j)), .int 0] M15 (fun r M16 => mE M15 M16 → r = none ∧ Q none M16)) := by
      refine P_wantS (h := h + 5) (k := 5) hR hB hz hS h0 (by decide) (by decide) ?_
      have ok5 : ∀ i2, ex b n i 5 = .ok i2 → tK b n i2 ≠ 0 := by
        intro i2 hi2
        unfold ex at hi2
        by_cases q : tK b n i = 5
        · rw [if_pos q] at hi2
          rcases adv_cases (b := b) (n := n) (i := i) with ⟨k1, e⟩ | ⟨k1, e⟩ <;> rw [e] at hi2 <;> cases hi2
          exact k1
        · rw [if_neg q] at hi2; cases hi2
      cases e : ex b n i 5 with
      | error y =>
        rw [e] at hE
        exact fun M4 T4 G4 _ => ⟨rfl, X_sumOf (h := h + 7) T4 (fun _ => ⟨rfl, hE M4 T4 G4⟩)⟩
      | ok i2 =>
        rw [e] at hE
        intro M4 R4 G4 _
        refine ⟨rfl, P_sum (h := h + 2) (sec := false) (fo := 5) (σ := guP (paP (paP σ j 3 2) j 4 (oi (fd τ.2.2.2.1 w))) (giS σ ||| ((1 : Int32) <<< (oi (fd τ.2.2.2.1 w) &&& 31))) (usS σ)) R4 hB hz hS (ok5 i2 e) hj ?_⟩
        show EndQ b n s m τ K o M4 (fun x => x) _ (suM b n m τ j 64 65 5 i2 o (guP (paP (paP σ j 3 2) j 4 (oi (fd τ.2.2.2.1 w))) (giS σ ||| ((1 : Int32) <<< (oi (fd τ.2.2.2.1 w) &&& 31))) (usS σ)))
        have hE : EndQ b n s m τ K o M (fun x => x.1) (fun M' => Q none M') ((suM b n m τ j 64 65 5 i2 o (guP (paP (paP σ j 3 2) j 4 (oi (fd τ.2.2.2.1 w))) (giS σ ||| ((1 : Int32) <<< (oi (fd τ.2.2.2.1 w) &&& 31))) (usS σ))).bind fun r => .ok (r.1, trP1 r.2 (mkT (trS r.2) 0).1, (mkT (trS r.2) 0).2)) := hE
        cases e2 : suM b n m τ j 64 65 5 i2 o (guP (paP (paP σ j 3 2) j 4 (oi (fd τ.2.2.2.1 w))) (giS σ ||| ((1 : Int32) <<< (oi (fd τ.2.2.2.1 w) &&& 31))) (usS σ)) with
        | error y => rw [e2] at hE; exact fun M5 T5 G5 _ => ⟨rfl, hE M5 T5 (G4.tr G5)⟩
        | ok r => rw [e2] at hE; exact fun M5 R5 G5 _ => ⟨rfl, hE M5 R5 (G4.tr G5)⟩
    refine ⟨fun y => ?_, fun y => ?_, fun y => ?_, fun y => ?_, fun y => ?_, fun y => ?_, fun y => ?_, fun y => ?_, fun y => ?_, fun y => ?_, fun y => ?_, fun y => ?_, fun y => ?_, fun y => ?_⟩ <;> first | exact absurd y (by decide) | exact q
  · subst z; exact absurd hopn (by decide)
end
