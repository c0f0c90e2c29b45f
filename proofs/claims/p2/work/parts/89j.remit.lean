/-! the reference: emit and sustain -/
def MxOk (τ : Td) : Prop := ∀ k, τ.2.2.1.getD k 0 = 0 ∨ τ.2.2.1.getD k 0 = 33 ∨ τ.2.2.1.getD k 0 = 34 ∨ τ.2.2.1.getD k 0 = 35
theorem sub30 {x : Int32} : x - 30 = 0 ↔ x = 30 := by
  constructor
  · intro h
    have h2 := congrArg (fun z => z + 30) h
    have h3 : x - 30 + 30 = 0 + 30 := h2
    rw [Int32.sub_add_cancel] at h3
    rw [h3]; decide
  · intro h
    rw [h]; decide
section
variable {b : Nat → Int32} {n s m : Nat} {τ : Td} {K : List KE} {σ : PS} {M M' : Mem} {i o h : Nat} {Q : Option Value → Mem → Prop}
theorem P_failsV {c : Int32} {p : Nat} (hR : RPs b n s m τ K σ M i o) (hc : 0 < c) (H : ∀ M', TXr M' c p → RGp m M M' → Q none M') : E (h + 1) mdX11_fails [.ref 29, .int c, .int (Int32.ofNat p)] M Q := by
  have F := hR.1.1
  refine KX11_fails ?_
  unfold DX11_fails_0 DX11_fails_17
  refine ⟨ok29 F, fun z => absurd hR.2.2.2.1 z, fun _ M2 e2 M3 e3 => H M3 ?_ ?_⟩
  · rw [e3, e2]; exact ⟨F.i.i, by simp [mNwI, mSwI, mKwI, mIwI, mJwI, mRwI, mLwI, mAIwI, mAJwI, mARwI, mNwJ, mSwJ, mKwJ, mIwJ, mJwJ, mRwJ, mLwJ, mAIwJ, mAJwJ, mARwJ, mNwR, mSwR, mKwR, mIwR, mJwR, mRwR, mLwR, mAIwR, mAJwR, mARwR, mNwAI, mSwAI, mKwAI, mIwAI, mJwAI, mRwAI, mLwAI, mAIwAI, mAJwAI, mARwAI, mNwAJ, mSwAJ, mKwAJ, mIwAJ, mJwAJ, mRwAJ, mLwAJ, mAIwAJ, mAJwAJ, mARwAJ, mNwAR, mSwAR, mKwAR, mIwAR, mJwAR, mRwAR, mLwAR, mAIwAR, mAJwAR, mARwAR, okkwI, okkwJ, okkwR, okkwAI, okkwAJ, okkwAR], hc, by simp [mNwI, mSwI, mKwI, mIwI, mJwI, mRwI, mLwI, mAIwI, mAJwI, mARwI, mNwJ, mSwJ, mKwJ, mIwJ, mJwJ, mRwJ, mLwJ, mAIwJ, mAJwJ, mARwJ, mNwR, mSwR, mKwR, mIwR, mJwR, mRwR, mLwR, mAIwR, mAJwR, mARwR, mNwAI, mSwAI, mKwAI, mIwAI, mJwAI, mRwAI, mLwAI, mAIwAI, mAJwAI, mARwAI, mNwAJ, mSwAJ, mKwAJ, mIwAJ, mJwAJ, mRwAJ, mLwAJ, mAIwAJ, mAJwAJ, mARwAJ, mNwAR, mSwAR, mKwAR, mIwAR, mJwAR, mRwAR, mLwAR, mAIwAR, mAJwAR, mARwAR, okkwI, okkwJ, okkwR, okkwAI, okkwAJ, okkwAR]⟩
  · rw [e3, e2]; exact (RG.i (by decide)).tr (RG.i (by decide))
theorem TXr.o33 {f v : Int32} {p : Nat} (hT : TXr M f p) : TXr (wI M 29 33 v) f p := ⟨hT.1.i, by simp [hT.2.1, mNwI, mSwI, mKwI, mIwI, mJwI, mRwI, mLwI, mAIwI, mAJwI, mARwI, mNwJ, mSwJ, mKwJ, mIwJ, mJwJ, mRwJ, mLwJ, mAIwJ, mAJwJ, mARwJ, mNwR, mSwR, mKwR, mIwR, mJwR, mRwR, mLwR, mAIwR, mAJwR, mARwR, mNwAI, mSwAI, mKwAI, mIwAI, mJwAI, mRwAI, mLwAI, mAIwAI, mAJwAI, mARwAI, mNwAJ, mSwAJ, mKwAJ, mIwAJ, mJwAJ, mRwAJ, mLwAJ, mAIwAJ, mAJwAJ, mARwAJ, mNwAR, mSwAR, mKwAR, mIwAR, mJwAR, mRwAR, mLwAR, mAIwAR, mAJwAR, mARwAR, okkwI, okkwJ, okkwR, okkwAI, okkwAJ, okkwAR], hT.2.2.1, by simp [hT.2.2.2, mNwI, mSwI, mKwI, mIwI, mJwI, mRwI, mLwI, mAIwI, mAJwI, mARwI, mNwJ, mSwJ, mKwJ, mIwJ, mJwJ, mRwJ, mLwJ, mAIwJ, mAJwJ, mARwJ, mNwR, mSwR, mKwR, mIwR, mJwR, mRwR, mLwR, mAIwR, mAJwR, mARwR, mNwAI, mSwAI, mKwAI, mIwAI, mJwAI, mRwAI, mLwAI, mAIwAI, mAJwAI, mARwAI, mNwAJ, mSwAJ, mKwAJ, mIwAJ, mJwAJ, mRwAJ, mLwAJ, mAIwAJ, mAJwAJ, mARwAJ, mNwAR, mSwAR, mKwAR, mIwAR, mJwAR, mRwAR, mLwAR, mAIwAR, mAJwAR, mARwAR, okkwI, okkwJ, okkwR, okkwAI, okkwAJ, okkwAR]⟩
theorem X_brack {f x v : Int32} {p : Nat} (hT : TXr M f p) (G : RGp m M' M) (H : ∀ M'', TXr M'' f p → RGp m M' M'' → Q none M'') : E (h + 3) mdX11_sumOf [.ref 29, .int x, .int 0] M (fun r M4 => mE M M4 → r = none ∧ E (h + 3) mdX11_want [.ref 29, .int 3, .long 41] M4 (fun r M5 => mE M4 M5 → r = none ∧ ∀ M6, M6 = wI M5 29 33 ((mI M5 29 33) - 1) → DX11_emitOf_249 (h + 3) M6 Q)) := by
  refine X_sumOf (h := h + 2) hT (fun _ => ⟨rfl, X_want (h := h + 2) hT (fun _ => ⟨rfl, fun M6 e6 => ?_⟩)⟩)
  unfold DX11_emitOf_249
  exact H M6 (by rw [e6]; exact hT.o33) (by rw [e6]; exact G.tr (RG.i (by decide)))
theorem P_emit {k : Int32} {j : Nat} (hR : RPs b n s m τ K σ M i o) (hB : By b) (hz : ∀ i, n ≤ i → b i = 0) (hS : Sto b n s) (h0 : tK b n i ≠ 0) (hj : j < 40) (hM : MxOk τ) (hk : (k = 40 ∧ σ.1.2.1 58 (40 * m + j) = 3) ∨ (k = 41 ∧ σ.1.2.1 58 (40 * m + j) = 4)) (hE : EndQ b n s m τ K o M (fun x => x.1) (fun M' => Q none M') (emM b n m τ k j i o σ)) : E (h + 8) mdX11_emitOf [.ref 29, .int (Int32.ofNat (40 * m + j))] M Q := by
  obtain ⟨c1, c2, c3, c4, c5, c6, c7⟩ := id hR
  have F := c1.1
  have tk := hR.tk hB
  have h4 := c1.2.2.2.1
  have m19 := c1.2.2.1
  obtain ⟨e1, e2, ⟨e3, e3b, e3c, e3d⟩, e4, e5, e6, e7, e8, e9⟩ := c1.2.2
  have l40 := lt40 h4 hj
  have p32 : mAI M 32 i = Int32.ofNat (tP b n i) := (c1.2.1 i c2.2.2).2.1
  have vi : ∀ {N : Mem} {c : Nat}, mL N c = 802 → vp_in (Int32.ofNat i) (mL N c) := fun e => by rw [e]; exact vp_of (by omega) (by decide)
  have zk : ∀ {c : Nat}, 58 ≤ c → c ≤ 72 → szA c * m ≤ 40 * m + j := fun a c => by rw [sz_p a c]; omega
  unfold emM at hE
  -- a fault has been told: nothing more
  have gone : ∀ (N : Mem) (f : Int32) (p : Nat) (x2 : Int32), TXr N f p → Q none N → DX11_emitOf_79 (h + 7) 29 (Int32.ofNat (40 * m + j)) x2 (Int32.ofNat (tP b n i)) N Q := by
    intro N f p x2 T q
    unfold DX11_emitOf_79
    refine ⟨ok29 T.1, fun z => ?_, fun _ => q⟩
    rw [T.2.1] at z
    have := T.2.2.1
    exact absurd (Int32.lt_of_lt_of_le this z) (by decide)
  refine KX11_emitOf ?_
  unfold DX11_emitOf_0
  by_cases hk2 : tK b n i = 2
  · rw [if_pos hk2] at hE
    have hs := hS.lt c2.2.2 h0 (by rw [hk2]; decide)
    refine ⟨ok29 F, K_name (h := h + 5) tk (fun _ _ => ⟨_, rfl, fun z => absurd z (by decide), fun _ => ?_⟩) (fun z => absurd hk2 z)⟩
    rw [c3, lt32 (n := i) (by omega)]
    refine ⟨33, rf29_4 F, ok33 F, vi (ln33 F), R_sigNamed (h := h + 6) F c1.2.2 (tk.nm hk2) (fun _ => ⟨_, rfl, ?_⟩)⟩
    unfold DX11_emitOf_24
    rw [c3, lt32 (n := i) (by omega)]
    refine ⟨ok29 F, 32, rf29_3 F, ok32 F, vi (ln32 F), K_name (h := h + 5) tk (fun _ _ => ⟨_, rfl, fun _ => ?_, fun z => absurd z (by decide)⟩) (fun z => absurd hk2 z)⟩
    rw [p32]
    have f4 : ∀ x2, (∀ M', TXr M' 4 (tP b n i) → RGp m M M' → Q none M') → DX11_emitOf_73 (h + 7) 29 (Int32.ofNat (40 * m + j)) x2 (Int32.ofNat (tP b n i)) M Q := by
      intro x2 H
      unfold DX11_emitOf_73
      exact ⟨ok29 F, P_failsV (h := h + 6) hR (by decide) (fun M' T' G' _ => ⟨rfl, gone M' 4 _ x2 T' (H M' T' G')⟩)⟩
    cases ef : fd τ.1 (tC b n i) with
    | none =>
      rw [ef] at hE
      exact ⟨fun _ => f4 _ (fun M' T' G' => hE M' T' G'), fun z => absurd rfl z⟩
    | some x =>
      rw [ef] at hE
      have hx := (fd_some ef).1
      have hE : EndQ b n s m τ K o M (fun x => x.1) (fun M' => Q none M') (if τ.2.1.getD x 0 = 30 then .error (4, tP b n i) else (adv' b n i).bind fun i2 =>
        if τ.2.2.1.getD x 0 = 0 then (if k = 40 ∧ tK b n i2 = 15 then .error (5, tP b n i) else .ok (i2, raP σ (up2 σ.1.2.1 60 (40 * m + j) (Int32.ofNat x)), x))
        else if k = 40 ∧ tK b n i2 = 15 then (if o = 15 then .error (6, tP b n i2) else (adv' b n i2).bind fun i3 =>
          (suM b n m τ j 64 65 5 i3 (o + 1) (paP (paP (raP σ (up2 σ.1.2.1 60 (40 * m + j) (Int32.ofNat x))) j 3 1) j 4 (Int32.ofNat x))).bind fun r => (ex b n r.1 16).bind fun i4 => .ok (i4, r.2, x))
        else .error (5, tP b n i)) := hE
      rw [show oi (some x) = Int32.ofNat x from rfl]
      have nx : ¬ Int32.ofNat x = -1 := fun z => by
        have z2 := congrArg Int32.toInt z
        rw [ti32 (by omega)] at z2
        have : (-1 : Int32).toInt = -1 := by decide
        omega
      have ex16 : (16 : Int32) * Int32.ofNat m + Int32.ofNat x = Int32.ofNat (16 * m + x) := off32 (a := 16) rfl
      have v64 : ∀ {N : Mem} {c : Nat}, mL N c = 64 → vp_in (Int32.ofNat (16 * m + x)) (mL N c) := fun e => by rw [e]; exact vp_of (by omega) (by decide)
      refine ⟨fun z => absurd z nx, fun _ => ⟨38, rf29_12 F, ok38 F, by rw [m19, ex16]; exact v64 (ln38 F), ?_⟩⟩
      rw [m19, ex16, lt32 (n := 16 * m + x) (by omega), e7 x hx, sub30]
      refine ⟨fun n30 => ?_, fun y30 => ?_⟩
      · rw [if_neg n30] at hE
        unfold DX11_emitOf_79
        rw [l40]
        refine ⟨ok29 F, fun _ => ⟨60, rf29_40 F, ok60 F, ix40 h4 hj (ln60 F), fun M4 e4' => ?_⟩, fun z => absurd (by rw [c4]; decide) z⟩
        have s4 := hR.ra (c := 60) (k := 40 * m + j) (v := Int32.ofNat x) (by decide) (by decide) (by decide) (zk (by decide) (by decide))
        rw [← e4'] at s4
        have F4 := s4.1.1
        have G4 : RGp m M M4 := by rw [e4']; exact RGp.ra (by decide) (by decide) (by decide) (zk (by decide) (by decide))
        have m194 := s4.1.2.2.1
        have e84 := (s4.1.2.2.2.2.2.2.2.2.2.1 x hx).1
        have a58 : mAI M4 58 (40 * m + j) = σ.1.2.1 58 (40 * m + j) := by rw [s4.2.2.2.2.2.1.2.2.1 58 (by decide) (by decide) (by decide)]; simp [raP, up2]
        refine ⟨39, rf29_13 F4, ok39 F4, by rw [m194, ex16]; exact v64 (ln39 F4), ?_⟩
        rw [m194, ex16, lt32 (n := 16 * m + x) (by omega), e84]
        -- behind the name
        have nxt : ∀ (ty : Int32), (ty = 0 ∧ τ.2.2.1.getD x 0 = 0) ∨ (ty = 1 ∧ τ.2.2.1.getD x 0 ≠ 0) → DX11_emitOf_116 (h + 7) 29 (Int32.ofNat (40 * m + j)) (Int32.ofNat (tP b n i)) ty M4 Q := by
          intro ty hty
          unfold DX11_emitOf_116
          refine ⟨ok29 F4, P_take (h := h + 5) s4 hB hz hs (by rw [hk2]; decide) (fun k1 M5 R5 G5 _ => ⟨rfl, fun _ => ?_, fun z => absurd (by rw [R5.2.2.2.1]; decide) z⟩) (fun k1 M5 T5 G5 _ => ⟨rfl, fun z => ?_, fun _ => ?_⟩)⟩
          · rw [adv_ok' k1] at hE
            have hE : EndQ b n s m τ K o M (fun x => x.1) (fun M' => Q none M') (if τ.2.2.1.getD x 0 = 0 then (if k = 40 ∧ tK b n (i + 1) = 15 then .error (5, tP b n i) else .ok (i + 1, raP σ (up2 σ.1.2.1 60 (40 * m + j) (Int32.ofNat x)), x))
              else if k = 40 ∧ tK b n (i + 1) = 15 then (if o = 15 then .error (6, tP b n (i + 1)) else (adv' b n (i + 1)).bind fun i3 =>
                (suM b n m τ j 64 65 5 i3 (o + 1) (paP (paP (raP σ (up2 σ.1.2.1 60 (40 * m + j) (Int32.ofNat x))) j 3 1) j 4 (Int32.ofNat x))).bind fun r => (ex b n r.1 16).bind fun i4 => .ok (i4, r.2, x))
              else .error (5, tP b n i)) := hE
            have F5 := R5.1.1
            have G45 := G4.tr G5
            have a585 : mAI M5 58 (40 * m + j) = σ.1.2.1 58 (40 * m + j) := by rw [R5.2.2.2.2.2.1.2.2.1 58 (by decide) (by decide) (by decide)]; simp [raP, up2]
            rw [l40]
            refine ⟨58, rf29_38 F5, ok58 F5, ix40 h4 hj (ln58 F5), ?_⟩
            rw [a585]
            -- typed and opened: they agree, or not
            have no5 : (∀ M', TXr M' 5 (tP b n i) → RGp m M M' → Q none M') → E (h + 7) mdX11_fails [.ref 29, .int 5, .int (Int32.ofNat (tP b n i))] M5 (fun r M6 => mE M5 M6 → r = none ∧ DX11_emitOf_249 (h + 7) M6 Q) := fun H => P_failsV (h := h + 6) R5 (by decide) (fun M' T' G' _ => ⟨rfl, by unfold DX11_emitOf_249; exact H M' T' (G45.tr G')⟩)
            have cl : ¬ (k = 40 ∧ tK b n (i + 1) = 15) → DX11_emitOf_156 (h + 7) 29 (Int32.ofNat (40 * m + j)) (Int32.ofNat (tP b n i)) ty 0 M5 Q := by
              intro hno
              unfold DX11_emitOf_156 DX11_emitOf_206
              rcases hty with ⟨rfl, q⟩ | ⟨rfl, q⟩
              · rw [if_pos q, if_neg hno] at hE
                refine ⟨fun _ => ⟨fun _ => ⟨fun _ => ?_, fun z => absurd rfl z⟩, fun z => absurd rfl z⟩, fun z => absurd rfl z⟩
                unfold DX11_emitOf_249
                exact hE M5 R5 G45
              · rw [if_neg q, if_neg hno] at hE
                exact ⟨fun z => absurd z (by decide), fun _ => ⟨ok29 F5, no5 (fun M' T' G' => hE M' T' G')⟩⟩
            refine ⟨fun n3 => by unfold DX11_emitOf_155; exact cl (fun z => n3 (by rcases hk with q | q; exact q.2; exact absurd (z.1.symm.trans q.1) (by decide))), fun y3 => ?_⟩
            have k40 : k = 40 := by
              rcases hk with q | q
              · exact q.1
              · rw [q.2] at y3; exact absurd y3 (by decide)
            refine K_sign (h := h + 6) (k := 15) (R5.tk hB) (by decide) (by decide) (fun q15 _ => ⟨_, rfl, fun z => absurd z (by decide), fun _ => ?_⟩) (fun n15 _ => ⟨_, rfl, fun _ => by unfold DX11_emitOf_155; exact cl (fun z => n15 z.2), fun z => absurd rfl z⟩)
            have hop : k = 40 ∧ tK b n (i + 1) = 15 := ⟨k40, q15⟩
            unfold DX11_emitOf_156
            rcases hty with ⟨rfl, q⟩ | ⟨rfl, q⟩
            · rw [if_pos q, if_pos hop] at hE
              exact ⟨fun z => absurd z (by decide), fun _ => ⟨ok29 F5, no5 (fun M' T' G' => hE M' T' G')⟩⟩
            · rw [if_neg q, if_pos hop] at hE
              refine ⟨fun _ => ⟨fun z => absurd z (by decide), fun _ => ⟨ok29 F5, fun n15 => ?_, fun y15 => ?_⟩⟩, fun z => absurd rfl z⟩
              · have no : o ≠ 15 := fun z => n15 (by rw [R5.2.2.2.2.1, z]; rfl)
                rw [if_neg no] at hE
                unfold DX11_emitOf_206
                refine ⟨fun z => absurd z (by decide), fun _ => ⟨ok29 F5, fun M6 e6 => ?_⟩⟩
                rw [R5.2.2.2.2.1, succ32] at e6
                have R6 := R5.op (o' := o + 1) (by omega)
                rw [← e6] at R6
                have G6 : RGp m M M6 := by rw [e6]; exact G45.tr (RG.i (by decide))
                have hs2 := hS.lt (i := i + 1) hs k1 (by rw [q15]; decide)
                refine P_take (h := h + 5) R6 hB hz hs2 (by rw [q15]; decide) (fun k2 M7 R7 G7 _ => ⟨rfl, ?_⟩) (fun k2 M7 T7 G7 _ => ⟨rfl, ?_⟩)
                · rw [adv_ok' k2] at hE
                  refine P_sum (h := h + 1) (sec := false) (fo := 5) (σ := paP (paP (raP σ (up2 σ.1.2.1 60 (40 * m + j) (Int32.ofNat x))) j 3 1) j 4 (Int32.ofNat x)) R7 hB hz hS k2 hj ?_
                  show EndQ b n s m τ K (o + 1) M7 (fun x => x) _ (suM b n m τ j 64 65 5 (i + 1 + 1) (o + 1) (paP (paP (raP σ (up2 σ.1.2.1 60 (40 * m + j) (Int32.ofNat x))) j 3 1) j 4 (Int32.ofNat x)))
                  have hE : EndQ b n s m τ K o M (fun x => x.1) (fun M' => Q none M') ((suM b n m τ j 64 65 5 (i + 1 + 1) (o + 1) (paP (paP (raP σ (up2 σ.1.2.1 60 (40 * m + j) (Int32.ofNat x))) j 3 1) j 4 (Int32.ofNat x))).bind fun r => (ex b n r.1 16).bind fun i4 => .ok (i4, r.2, x)) := hE
                  have sok := suM_ok (F := True) (m := m) (τ := τ) (j := j) (f1 := 64) (f2 := 65) (fo := 5) (o := o + 1) (σ := paP (paP (raP σ (up2 σ.1.2.1 60 (40 * m + j) (Int32.ofNat x))) j 3 1) j 4 (Int32.ofNat x)) hS (i := i + 1 + 1) hs2 k2 (by decide) (by decide)
                  cases es : suM b n m τ j 64 65 5 (i + 1 + 1) (o + 1) (paP (paP (raP σ (up2 σ.1.2.1 60 (40 * m + j) (Int32.ofNat x))) j 3 1) j 4 (Int32.ofNat x)) with
                  | error y =>
                    rw [es] at hE
                    intro M8 T8 G8 _
                    refine ⟨rfl, X_want (h := h + 6) T8 (fun _ => ⟨rfl, fun M9 e9 => ?_⟩)⟩
                    unfold DX11_emitOf_249
                    exact hE M9 (by rw [e9]; exact T8.o33) (by rw [e9]; exact ((G6.tr G7).tr G8).tr (RG.i (by decide)))
                  | ok r =>
                    rw [es] at hE sok
                    intro M8 R8 G8 _
                    refine ⟨rfl, P_wantS (h := h + 4) (k := 16) R8 hB hz hS sok.2.2.1 (by decide) (by decide) ?_⟩
                    have hE : EndQ b n s m τ K o M (fun x => x.1) (fun M' => Q none M') ((ex b n r.1 16).bind fun i4 => .ok (i4, r.2, x)) := hE
                    cases ew : ex b n r.1 16 with
                    | error y =>
                      rw [ew] at hE
                      intro M9 T9 G9 _
                      refine ⟨rfl, fun M10 e10 => ?_⟩
                      unfold DX11_emitOf_249
                      exact hE M10 (by rw [e10]; exact T9.o33) (by rw [e10]; exact (((G6.tr G7).tr G8).tr G9).tr (RG.i (by decide)))
                    | ok i4 =>
                      rw [ew] at hE
                      intro M9 R9 G9 _
                      refine ⟨rfl, fun M10 e10 => ?_⟩
                      rw [R9.2.2.2.2.1, dec32 (by omega)] at e10
                      have R10 := R9.op (o' := o) (by omega)
                      rw [← e10] at R10
                      unfold DX11_emitOf_249
                      exact hE M10 R10 (by rw [e10]; exact (((G6.tr G7).tr G8).tr G9).tr (RG.i (by decide)))
                · rw [adv_er' k2] at hE
                  exact X_brack (h := h + 4) (v := 0) T7 (G6.tr G7) (fun M' T' G' => hE M' T' G')
              · have yo : o = 15 := (z32 (a := o) (k := 15) (by omega) (by decide)).mp (by rw [← R5.2.2.2.2.1]; exact y15)
                rw [if_pos yo] at hE
                exact P_failsA (h := h + 6) (H2 := fun M' => DX11_emitOf_249 (h + 7) M' Q) R5 hB (by decide) (fun M' T' G' => by unfold DX11_emitOf_249; exact hE M' T' (G45.tr G'))
          · rw [T5.2.1] at z
            exact absurd z (by decide)
          · rw [adv_er' k1] at hE
            exact hE M5 T5 (G4.tr G5)
        rcases hM x with q | q | q | q
        · rw [if_pos q]
          exact ⟨fun _ => nxt 0 (Or.inl ⟨rfl, q⟩), fun z => absurd (by decide) z⟩
        · rw [if_neg (by rw [q]; decide), q]
          exact ⟨fun z => absurd z (by decide), fun _ => nxt 1 (Or.inr ⟨rfl, by rw [q]; decide⟩)⟩
        · rw [if_neg (by rw [q]; decide), q]
          exact ⟨fun z => absurd z (by decide), fun _ => nxt 1 (Or.inr ⟨rfl, by rw [q]; decide⟩)⟩
        · rw [if_neg (by rw [q]; decide), q]
          exact ⟨fun z => absurd z (by decide), fun _ => nxt 1 (Or.inr ⟨rfl, by rw [q]; decide⟩)⟩
      · rw [if_pos y30] at hE
        exact f4 _ (fun M' T' G' => hE M' T' G')
  · rw [if_neg hk2] at hE
    refine ⟨ok29 F, K_name (h := h + 5) tk (fun z => absurd z hk2) (fun _ _ => ⟨_, rfl, fun _ => ?_, fun z => absurd rfl z⟩)⟩
    unfold DX11_emitOf_24
    rw [c3, lt32 (n := i) (by omega)]
    refine ⟨ok29 F, 32, rf29_3 F, ok32 F, vi (ln32 F), K_name (h := h + 5) tk (fun z => absurd z hk2) (fun _ _ => ⟨_, rfl, fun z => absurd rfl z, fun _ => ?_⟩)⟩
    rw [p32]
    exact P_failsV (h := h + 6) hR (by decide) (fun M' T' G' _ => ⟨rfl, gone M' 2 _ _ T' (hE M' T' G')⟩)
end
