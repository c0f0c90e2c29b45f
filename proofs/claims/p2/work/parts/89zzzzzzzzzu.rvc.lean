/-! the reference as a whole over compile -/
section
variable {m mods govs : Nat} {fs cs js : List Nat} {M M' M2 M3 : Mem} {R : RMo} {sl il : List Nat} {X : List Nd} {np n t : Nat} {f : Nat → Nat}
theorem sz8z {c : Nat} (h1 : 80 ≤ c) (h2 : c ≤ 89) : szA c = 700 := by
  rcases (show c = 80 ∨ c = 81 ∨ c = 82 ∨ c = 83 ∨ c = 84 ∨ c = 85 ∨ c = 86 ∨ c = 87 ∨ c = 88 ∨ c = 89 by omega) with e | e | e | e | e | e | e | e | e | e <;> rw [e] <;> decide
theorem sz58 {c : Nat} (h1 : 58 ≤ c) (h2 : c ≤ 72) : szA c = 40 := by
  rcases (show c = 58 ∨ c = 59 ∨ c = 60 ∨ c = 61 ∨ c = 62 ∨ c = 63 ∨ c = 64 ∨ c = 65 ∨ c = 66 ∨ c = 67 ∨ c = 68 ∨ c = 69 ∨ c = 70 ∨ c = 71 ∨ c = 72 by omega) with e | e | e | e | e | e | e | e | e | e | e | e | e | e | e <;> rw [e] <;> decide
theorem RG.sg (k : RG m fs cs js M M') {c i z q : Nat} (hz : szA c = z) (hi : i < z * (q + 1)) (hq : q < m) : mAI M' c i = mAI M c i ∧ mAJ M' c i = mAJ M c i := by
  refine k.2.2.2.2.2.2.2.2.2.2.2 c i ?_
  rw [hz]
  exact Nat.lt_of_lt_of_le hi (Nat.mul_le_mul_left _ hq)
theorem RbM.rg (hB : RbM R sl il X np M) (k : RG m fs cs js M M') (hm : moM R < m) : RbM R sl il X np M' := by
  obtain ⟨⟨⟨a1, a2, a3, a4, a5, a6⟩, b1, b2, b3, b4, ⟨c1, c2, c3, c4, c5, c6⟩⟩, d, ⟨⟨e1, e1'⟩, e2, e3, e4, e5⟩, ⟨g1, ⟨⟨g2, g3⟩, g4⟩, ⟨g5, g6⟩, g7⟩, h1, h2⟩ := hB
  have s7 : (moS R).1 ≤ 700 := a2.1.2
  have one : ∀ c, szA c = 1 → mAI M' c (moM R) = mAI M c (moM R) := fun c hc => (k.sg hc (by omega) hm).1
  have p40 : ∀ c j, 58 ≤ c → c ≤ 72 → j < 40 → mAI M' c (40 * moM R + j) = mAI M c (40 * moM R + j) := fun c j h1 h2 hj => (k.sg (sz58 h1 h2) (by omega) hm).1
  have su : ∀ {j c1 c2 : Nat}, j < np → 58 ≤ c1 → c1 ≤ 72 → 58 ≤ c2 → c2 ≤ 72 → SuR M X (moM R) j c1 c2 → SuR M' X (moM R) j c1 c2 := fun {j c1 c2} hj q1 q2 q3 q4 hs => by
    obtain ⟨f, c, u1, u2, u3, u4⟩ := hs
    exact ⟨f, c, u1, by rw [p40 c1 j q1 q2 (by omega)]; exact u2, by rw [p40 c2 j q3 q4 (by omega)]; exact u3, u4⟩
  refine ⟨⟨⟨a1, a2, a3, a4, a5, a6⟩, fun c y q1 q2 hy => ?_, fun y hy => ?_, fun c p q1 q2 q3 q4 => ?_, fun q hq => ?_, ⟨by rw [one 79 (by decide)]; exact c1, by rw [one 92 (by decide)]; exact c2, by rw [one 94 (by decide)]; exact c3, fun q hq => ?_, by rw [one 34 (by decide)]; exact c5, fun q hq => ?_⟩⟩, d, ⟨⟨by rw [one 35 (by decide)]; exact e1, e1'⟩, fun j hj => ?_, e3, e4, e5⟩, ⟨g1, ⟨⟨by rw [one 48 (by decide)]; exact g2, fun q hq => ?_⟩, g4⟩, ⟨by rw [one 54 (by decide)]; exact g5, g6⟩, fun j hj => ?_⟩, fun j hj => ?_, ?_⟩
  · have hy2 := hy.2
    rw [(k.sg (sz8z q1 (by omega)) (by omega) hm).1]; exact b1 c y q1 q2 hy
  · have hy2 := hy.2
    rw [(k.sg (c := 87) (sz8z (by decide) (by decide)) (by omega) hm).1, (k.sg (c := 88) (sz8z (by decide) (by decide)) (by omega) hm).1]; exact b2 y hy
  · rw [(k.sg (sz58 q1 (by omega)) (by omega) hm).1]; exact b3 c p q1 q2 q3 q4
  · rw [(k.sg (c := 45) (z := 410) (by decide) (by omega) hm).1, (k.sg (c := 46) (z := 410) (by decide) (by omega) hm).1, (k.sg (c := 47) (z := 410) (by decide) (by omega) hm).1]; exact b4 q hq
  · have := d.2.2.2.2.2
    rw [(k.sg (c := 93) (z := 1400) (by decide) (by omega) hm).1]; exact c4 q hq
  · rw [(k.sg (c := 38) (z := 16) (by decide) (by omega) hm).1]; exact c6 q hq
  · rw [(k.sg (c := 41) (z := 4) (by decide) (by omega) hm).1]; exact e2 j hj
  · rw [(k.sg (c := 49) (z := 810) (by decide) (by omega) hm).1, (k.sg (c := 50) (z := 810) (by decide) (by omega) hm).2, (k.sg (c := 51) (z := 810) (by decide) (by omega) hm).1]; exact g3 q hq
  · obtain ⟨u1, u2, u3⟩ := g7 j hj
    unfold RtP
    rw [p40 58 j (by decide) (by decide) (by omega), p40 60 j (by decide) (by decide) (by omega), p40 65 j (by decide) (by decide) (by omega)]
    exact ⟨fun z => ⟨su hj (by decide) (by decide) (by decide) (by decide) (u1 z).1, su hj (by decide) (by decide) (by decide) (by decide) (u1 z).2⟩, fun z z2 => ⟨su hj (by decide) (by decide) (by decide) (by decide) (u2 z z2).1, (u2 z z2).2⟩, fun z => ⟨su hj (by decide) (by decide) (by decide) (by decide) (u3 z).1, (u3 z).2⟩⟩
  · rw [(k.sg (c := 90) (z := 40) (by decide) (by omega) hm).1]; exact h1 j hj
  · rw [one 91 (by decide)]; exact h2
theorem FrE.rg {q : Nat} (hf : FrE M q t) (k : RG m fs cs js M M') (hq : q < m) : FrE M' q t := by
  unfold FrE
  rw [(k.sg (c := 35) (z := 1) (by decide) (by omega) hq).1, (k.sg (c := 56) (z := 1) (by decide) (by omega) hq).1]
  exact hf
theorem SrG.rg {q : Nat} (hG : SrG M q) (k : RG m fs cs js M M') (hq : q < m) (hcs : ∀ c ∈ cs, c ≤ 122) : SrG M' q := by
  have e122 : mAI M' 122 q = mAI M 122 q := (k.sg (c := 122) (z := 1) (by decide) (by omega) hq).1
  have rw0 : ∀ c, 123 ≤ c → mAI M' c = mAI M c := fun c hc => k.2.2.2.2.2.2.2.2.2.1 c (fun z => by have := hcs c z; omega)
  unfold SrG SrI ClF
  rw [e122, rw0 123 (by decide), rw0 126 (by decide), rw0 128 (by decide)]
  rcases hG with g | g | ⟨g, n, t, f, b1, b2, b3, b4⟩
  · exact Or.inl g
  · exact Or.inr (Or.inl g)
  · exact Or.inr (Or.inr ⟨g, n, t, f, b1, b2.rg k hq, b3, b4⟩)
/-- compile leaves what was there before -/
theorem RvS.rg (hR : RvS M mods govs) (k : RG mods fs cs js M M') (hcs : ∀ c ∈ cs, c ≤ 122 ∧ c ≠ 102 ∧ c ≠ 103 ∧ c ≠ 110) (h18 : 18 ∉ fs) (h91 : 91 ∉ fs) (F : Fix M') : RvS M' mods govs := by
  obtain ⟨⟨-, ⟨a1, a2, a3⟩, ⟨b1, b2⟩, c, d, e⟩, hL, hm⟩ := hR
  have r : ∀ c, c = 102 ∨ c = 103 ∨ c = 110 ∨ 123 ≤ c → mAI M' c = mAI M c := fun c hc => k.2.2.2.2.2.2.2.2.2.1 c (fun z => by have := hcs c z; omega)
  have i29 : ∀ f, f ∉ fs → mI M' 29 f = mI M 29 f := fun f hf => k.2.2.2.2.2.2.2.2.1 f hf
  refine ⟨⟨F, ⟨by rw [i29 18 h18]; exact a1, a2, fun j => by rw [r 103 (by omega)]; exact a3 j⟩, ⟨by rw [i29 91 h91]; exact b1, b2⟩, by rw [r 102 (by omega)]; exact c, by rw [r 110 (by omega)]; exact d, fun q hq => ?_⟩, hL.k (r 129 (by omega)), fun q hq => ?_⟩
  · have one : ∀ c, szA c = 1 → mAI M' c q = mAI M c q := fun c hc => (k.sg hc (by omega) hq).1
    rw [one 34 (by decide), one 35 (by decide), one 36 (by decide), one 54 (by decide), one 55 (by decide)]
    exact e q hq
  · obtain ⟨⟨R, sl, il, X, np, eR, hB⟩, g, f, f1, f2⟩ := hm q hq
    exact ⟨⟨R, sl, il, X, np, eR, hB.rg k (by rw [eR]; exact hq)⟩, g.rg k hq (fun c z => (hcs c z).1), f, f1, by rw [(k.sg (c := 56) (z := 1) (by decide) (by omega) hq).1]; exact f2⟩
/-- a module more -/
theorem RvS.mo (hR : RvS M2 mods govs) (h4 : mods < 4) (e3 : M3 = wI M2 29 18 (Int32.ofNat (mods + 1))) (hB : RbM R sl il X np M3) (eR : moM R = mods) (e122 : mAI M2 122 mods = 0) (h34 : ∃ k, k ≤ 16 ∧ mAI M2 34 mods = Int32.ofNat k) (h35 : ∃ k, k ≤ 4 ∧ mAI M2 35 mods = Int32.ofNat k) (h36 : ∃ k, k ≤ 6 ∧ mAI M2 36 mods = Int32.ofNat k) (h54 : ∃ k, k ≤ 40 ∧ mAI M2 54 mods = Int32.ofNat k) (h55 : ∃ k, k ≤ 24 ∧ mAI M2 55 mods = Int32.ofNat k) (h56 : ∃ f, f ≤ 100 ∧ mAI M2 56 mods = Int32.ofNat f) : RvS M3 (mods + 1) govs := by
  obtain ⟨⟨F, ⟨a1, a2, a3⟩, ⟨b1, b2⟩, c, d, e⟩, hL, hm⟩ := hR
  have k3 : RfF (fun f => f = 18) noP noP M2 M3 := RfF.i rfl e3
  have r3 : mAI M3 = mAI M2 := by rw [e3]; rfl
  have i3 : ∀ f, f ≠ 18 → mI M3 29 f = mI M2 29 f := fun f hf => k3.2.2.2.1 f hf
  refine ⟨⟨k3.fix F (fun z => z), ⟨by rw [e3, mI_wI, if_pos ⟨rfl, rfl⟩], by omega, fun j => by rw [r3]; exact a3 j⟩, ⟨by rw [i3 91 (by decide)]; exact b1, b2⟩, fun g hg => ?_, by rw [r3]; exact d, fun q hq => ?_⟩, hL.k (by rw [r3]), fun q hq => ?_⟩
  · obtain ⟨q, q1, q2⟩ := c g hg
    exact ⟨q, by omega, by rw [r3]; exact q2⟩
  · rw [r3]
    by_cases z : q = mods
    · rw [z]; exact ⟨h34, h35, h36, h54, h55⟩
    · exact e q (by omega)
  · by_cases z : q = mods
    · subst z
      exact ⟨⟨R, sl, il, X, np, eR, hB⟩, Or.inl (by rw [r3]; exact e122), by rw [r3]; exact h56⟩
    · obtain ⟨⟨R', sl', il', X', np', eR', hB'⟩, g, f, f1, f2⟩ := hm q (by omega)
      refine ⟨⟨R', sl', il', X', np', eR', hB'.br k3 (fun c z => z.elim) (fun c z => z.elim)⟩, ?_, f, f1, by rw [r3]; exact f2⟩
      unfold SrG SrI FrE ClF
      rw [r3]
      exact g
end
