/-! the reference: behind a row -/
section
variable {b : Nat → Int32} {n s m : Nat} {τ : Td} {K : List KE} {σ : PS} {M M' : Mem} {i o h : Nat} {Q : Option Value → Mem → Prop}
/-- the words 'end' -/
theorem go182 {f : Mem → Prop} (hR : RPs b n s m τ K σ M i o) (hB : By b) (hz : ∀ i, n ≤ i → b i = 0) (hS : Sto b n s) (h0 : tK b n i ≠ 0) (hE : EndP b n s m τ K σ o M (fun M' => Q (some (.int 0)) M') (ex b n i 43)) : DX11_goesOn_182 (h + 3) 29 M Q := by
  unfold DX11_goesOn_182
  refine ⟨ok29 hR.1.1, P_wantW (h := h) (k := 43) (j := 13) hR hB hz hS h0 (by decide) (by decide) (by decide) ?_⟩
  cases e : ex b n i 43 with
  | error y => rw [e] at hE; exact fun M4 T4 G4 _ => ⟨rfl, Or.inl rfl, hE M4 T4 G4⟩
  | ok r => rw [e] at hE; exact fun M4 R4 G4 _ => ⟨rfl, Or.inl rfl, hE M4 R4 G4⟩
theorem X_go182 {f : Int32} {p : Nat} (hT : TXr M f p) (H : Q (some (.int 0)) M) : DX11_goesOn_182 (h + 1) 29 M Q := by
  unfold DX11_goesOn_182
  exact ⟨ok29 hT.1, X_want (h := h) hT (fun _ => ⟨rfl, Or.inl rfl, H⟩)⟩
/-- the part that is open, and how many rows it has -/
theorem go_top {e : KE} {j : Nat} (hR : RPs b n s m τ (e :: K) σ M i o) (hl : K.length ≤ 15) : mI M 29 60 - 1 = Int32.ofNat K.length ∧ mAI M 76 K.length = Int32.ofNat e.1 ∧ mAI M 78 K.length = Int32.ofNat e.2.2.1 := by
  have d := hR.2.2.2.2.2.1.2.2.2.2.2.2
  refine ⟨?_, ?_, ?_⟩
  · rw [d.1.1, List.length_map]
    exact dec32 (by omega)
  · have z := (d.1 : St M 76 60 0 (e.1 :: K.map (fun e => e.1))).top
    rw [List.length_map, Nat.zero_add] at z
    exact z
  · have z := (d.2.2 : St M 78 60 0 (e.2.2.1 :: K.map (fun e => e.2.2.1))).top
    rw [List.length_map, Nat.zero_add] at z
    exact z
theorem ex_ok {c : Int32} {i2 : Nat} (hx : ex b n i c = .ok i2) : tK b n i2 ≠ 0 := by
  unfold ex at hx
  by_cases q : tK b n i = c
  · rw [if_pos q] at hx
    rcases adv_cases (b := b) (n := n) (i := i) with ⟨k1, e⟩ | ⟨k1, e⟩ <;> rw [e] at hx <;> cases hx
    exact k1
  · rw [if_neg q] at hx; cases hx
theorem P_goAll {e : KE} {j : Nat} (hR : RPs b n s m τ (e :: K) σ M i o) (hB : By b) (hz : ∀ i, n ≤ i → b i = 0) (hS : Sto b n s) (h0 : tK b n i ≠ 0) (hj : j < 40) (hl : K.length ≤ 15) (h58 : σ.1.2.1 58 (40 * m + j) = 16) (hm : e.2.2.1 ≤ 8) (H6 : tK b n i = 6 → e.2.2.1 ≠ 8 → (tK b n (i + 1) ≠ 0 → ∀ M', RPs b n s m τ (e :: K) σ M' (i + 1) o → RGp m M M' → Q (some (.int 1)) M') ∧ (tK b n (i + 1) = 0 → ∀ M', TXr M' 1 (tP b n (i + 1)) → RGp m M M' → Q (some (.int 0)) M')) (H8 : tK b n i = 6 → e.2.2.1 = 8 → ∀ M', TXr M' 6 (tP b n i) → RGp m M M' → Q (some (.int 0)) M') (HE : tK b n i ≠ 6 → EndP b n s m τ (e :: K) σ o M (fun M' => Q (some (.int 0)) M') (ex b n i 18)) : E (h + 4) mdX11_goesOn [.ref 29, .int (Int32.ofNat (40 * m + j))] M Q := by
  obtain ⟨c1, c2, c3, c4, c5, c6, c7⟩ := id hR
  have F := c1.1
  have h4 := c1.2.2.2.1
  have l40 := lt40 h4 hj
  obtain ⟨t1, t2, t3⟩ := go_top (j := j) hR hl
  have a58 : mAI M 58 (40 * m + j) = 16 := by rw [c6.2.2.1 58 (by decide) (by decide) (by decide)]; exact h58
  have c8 : (Int32.ofNat e.2.2.1 = 8) ↔ e.2.2.1 = 8 := z32 (a := e.2.2.1) (k := 8) (by omega) (by decide)
  refine KX11_goesOn ?_
  unfold DX11_goesOn_0
  rw [l40, t1, lt32 (n := K.length) (by omega)]
  refine ⟨ok29 F, 58, rf29_38 F, ok58 F, ix40 h4 hj (ln58 F), 78, rf29_59 F, ok78 F, by rw [ln78 F]; exact vp_of (by omega) (by decide), ?_⟩
  rw [a58, t3]
  refine ⟨fun z => absurd rfl z, fun _ => K_sign (h := h + 2) (k := 6) (hR.tk hB) (by decide) (by decide) (fun q6 _ => ⟨_, rfl, fun z => absurd z (by decide), fun _ => ⟨fun n8 => ?_, fun y8 => ?_⟩⟩) (fun n6 _ => ⟨_, rfl, fun _ => ?_, fun z => absurd rfl z⟩)⟩
  · have hs := hS.lt c2.2.2 h0 (by rw [q6]; decide)
    have hh := H6 q6 (fun z => n8 (c8.mpr z))
    refine P_take (h := h + 1) hR hB hz hs (by rw [q6]; decide) (fun k1 M5 R5 G5 _ => ⟨rfl, fun z => absurd R5.2.2.2.1 z, fun _ => ?_⟩) (fun k1 M5 T5 G5 _ => ⟨rfl, fun _ => ?_, fun z => absurd z T5.n0⟩)
    · unfold DX11_goesOn_75; exact ⟨Or.inr rfl, hh.1 k1 M5 R5 G5⟩
    · unfold DX11_goesOn_75; exact ⟨Or.inl rfl, hh.2 k1 M5 T5 G5⟩
  · exact P_failsA (h := h + 2) (H2 := fun M' => ((0 : Int32) = 0 ∨ (0 : Int32) = 1) ∧ Q (some (.int 0)) M') hR hB (by decide) (fun M' T' G' => ⟨Or.inl rfl, H8 q6 (c8.mp y8) M' T' G'⟩)
  · refine P_wantS (h := h) (k := 18) hR hB hz hS h0 (by decide) (by decide) ?_
    have hE := HE n6
    cases ew : ex b n i 18 with
    | error y => rw [ew] at hE; exact fun M4 T4 G4 _ => ⟨rfl, Or.inl rfl, hE M4 T4 G4⟩
    | ok r => rw [ew] at hE; exact fun M4 R4 G4 _ => ⟨rfl, Or.inl rfl, hE M4 R4 G4⟩
/-- present, if: 'else', or the end -/
theorem P_goElse {e : KE} {j lit x y : Nat} {k : Int32} (hR : RPs b n s m τ (e :: K) σ M i o) (hB : By b) (hz : ∀ i, n ≤ i → b i = 0) (hS : Sto b n s) (h0 : tK b n i ≠ 0) (hj : j < 40) (hl : K.length ≤ 15) (hk : k = 44 ∨ k = 58) (h58 : σ.1.2.1 58 (40 * m + j) = Int32.ofNat (soK k)) (hm : e.2.2.1 ≤ 8) (H1 : e.2.2.1 = 1 → tK b n i = 46 → (tK b n (i + 1) ≠ 0 → ∀ M', RPs b n s m τ (e :: K) σ M' (i + 1) o → RGp m M M' → Q (some (.int 1)) M') ∧ (tK b n (i + 1) = 0 → ∀ M', TXr M' 1 (tP b n (i + 1)) → RGp m M M' → Q (some (.int 0)) M')) (HE : ¬ (e.2.2.1 = 1 ∧ tK b n i = 46) → EndP b n s m τ (e :: K) σ o M (fun M' => Q (some (.int 0)) M') (ex b n i 43)) : E (h + 4) mdX11_goesOn [.ref 29, .int (Int32.ofNat (40 * m + j))] M Q := by
  obtain ⟨c1, c2, c3, c4, c5, c6, c7⟩ := id hR
  have F := c1.1
  have h4 := c1.2.2.2.1
  have l40 := lt40 h4 hj
  obtain ⟨t1, t2, t3⟩ := go_top (j := j) hR hl
  have a58 : mAI M 58 (40 * m + j) = Int32.ofNat (soK k) := by rw [c6.2.2.1 58 (by decide) (by decide) (by decide)]; exact h58
  have cc : (Int32.ofNat e.2.2.1 = 1) ↔ e.2.2.1 = 1 := z32 (a := e.2.2.1) (k := 1) (by omega) (by decide)
  have end' : ¬ (e.2.2.1 = 1 ∧ tK b n i = 46) → ∀ v : Int32, v = 6 ∨ v = 14 → DX11_goesOn_131 (h + 3) 29 (Int32.ofNat (40 * m + j)) v M Q := by
    intro hno v hv
    have hE := go182 (f := fun _ => True) (h := h) (Q := Q) hR hB hz hS h0 (HE hno)
    unfold DX11_goesOn_131 DX11_goesOn_163
    rcases hv with rfl | rfl
    · exact ⟨fun z => absurd z (by decide), fun _ => ⟨fun _ => ⟨fun _ => hE, fun z => absurd z (by decide)⟩, fun z => absurd z (by decide)⟩⟩
    · exact ⟨fun z => absurd z (by decide), fun _ => ⟨fun _ => ⟨fun _ => hE, fun z => absurd z (by decide)⟩, fun z => absurd z (by decide)⟩⟩
  have m98 : ∀ v : Int32, v = 6 ∨ v = 14 → DX11_goesOn_98 (h + 3) 29 (Int32.ofNat (40 * m + j)) v (Int32.ofNat e.2.2.1) M Q := by
    intro v hv
    unfold DX11_goesOn_98
    refine ⟨fun n1 => end' (fun z => n1 (cc.mpr z.1)) v hv, fun y1 => ⟨ok29 F, K_key (h := h + 2) (j := 16) (k := 46) (hR.tk hB) (by decide) (by decide) (by decide) (fun q _ => ⟨_, rfl, fun z => absurd z (by decide), fun _ => ?_⟩) (fun q _ => ⟨_, rfl, fun _ => end' (fun z => q z.2) v hv, fun z => absurd rfl z⟩)⟩⟩
    have hs := hS.lt c2.2.2 h0 (by rw [q]; decide)
    have hh := H1 (cc.mp y1) q
    refine P_take (h := h + 1) hR hB hz hs (by rw [q]; decide) (fun k1 M5 R5 G5 _ => ⟨rfl, fun z => absurd R5.2.2.2.1 z, fun _ => ?_⟩) (fun k1 M5 T5 G5 _ => ⟨rfl, fun _ => ?_, fun z => absurd z T5.n0⟩)
    · unfold DX11_goesOn_130; exact ⟨Or.inr rfl, hh.1 k1 M5 R5 G5⟩
    · unfold DX11_goesOn_130; exact ⟨Or.inl rfl, hh.2 k1 M5 T5 G5⟩
  refine KX11_goesOn ?_
  unfold DX11_goesOn_0
  rw [l40, t1, lt32 (n := K.length) (by omega)]
  refine ⟨ok29 F, 58, rf29_38 F, ok58 F, ix40 h4 hj (ln58 F), 78, rf29_59 F, ok78 F, by rw [ln78 F]; exact vp_of (by omega) (by decide), ?_⟩
  rw [a58, t3]
  rcases hk with rfl | rfl
  · exact ⟨fun _ => ⟨fun _ => m98 6 (Or.inl rfl), fun z => absurd (by decide) z⟩, fun z => absurd z (by decide)⟩
  · exact ⟨fun _ => ⟨fun z => absurd z (by decide), fun _ => ⟨fun z => absurd (by decide) z, fun _ => m98 14 (Or.inr rfl)⟩⟩, fun z => absurd z (by decide)⟩
end
