/-! the reference's tokens -/
def w27 (b : Nat → Int32) (f : Nat) : Nat → Nat → Int64 → Int64
  | 0, _, x => x
  | k + 1, a, x => if isL (b a) = true then w27 b f k (a + 1) (if a - f < 10 then ((27 * x) + ((b a).toInt64)) - 96 else x) else x
def n10 (b : Nat → Int32) (f : Nat) : Nat → Nat → Int64 → Int64
  | 0, _, x => x
  | k + 1, a, x => if isF (b a) = true then n10 b f k (a + 1) (if a - f < 6 then ((10 * x) + ((b a).toInt64)) - 48 else x) else x
theorem sub32 {a c : Nat} (h : c ≤ a) (ha : a < 2147483648) : Int32.ofNat a - Int32.ofNat c = Int32.ofNat (a - c) := by
  refine Int32.toInt_inj.mp ?_
  rw [j_sub, ti32 ha, ti32 (by omega), ti32 (by omega)]
  omega
theorem TR.ai {M : Mem} {n c i : Nat} {b : Nat → Int32} {v : Int32} (h : TR M n b) (hc : c ≠ 30) : TR (wAI M c i v) n b := ⟨h.1, h.2.1, fun j hj => by rw [mAI_wAI, if_neg (fun z => hc z.1.symm)]; exact h.2.2.1 j hj, h.2.2.2⟩
theorem r_word {h n i f : Nat} {b : Nat → Int32} {Q : Option Value → Mem → Prop} {M : Mem} {y : Int32} (F : Fix M) (hT : TR M n b) : ∀ (k a : Nat) (x : Int64), a + k = n → f ≤ a →
    DX11_cut_172 (h + 1) 29 (Int32.ofNat i) (Int32.ofNat (runF isL b k a)) y (w27 b f k a x) 31 (Int32.ofNat i) (if runF isL b k a - f ≤ 10 then 1 else 4) M Q →
    T (h + 2) mdX11_cut 103 [(0, .ref 29), (1, .int (Int32.ofNat i)), (2, .int (Int32.ofNat a)), (3, .int y), (4, .int (Int32.ofNat f)), (7, .long x)] [] M Q := by
  intro k
  have hn := hT.1
  induction k with
  | zero =>
    intro a x hk hf H
    refine VX11_cut_103 ?_
    unfold DX11_cut_103
    have hb : b a = 0 := hT.2.2.2 a (by omega)
    refine ⟨ok29 F, R_byteAt F hT (by omega) (fun _ => ⟨_, rfl, R_isL (fun _ => ⟨_, rfl, fun _ => ⟨31, rf29_2 F, ?_, ?_⟩, fun hc => ?_⟩)⟩)⟩
    · rw [sub32 hf (by omega)]
      intro hc
      have hc : a - f ≤ 10 := (le32 (b := 10) (by omega) (by decide)).mp hc
      unfold runF w27 at H
      rw [if_pos hc] at H
      exact H
    · rw [sub32 hf (by omega)]
      intro hc
      have hc : ¬ a - f ≤ 10 := fun z => hc ((le32 (b := 10) (by omega) (by decide)).mpr z)
      unfold runF w27 at H
      rw [if_neg hc] at H
      exact H
    · rw [hb] at hc
      exact absurd (by decide) hc
  | succ k ih =>
    intro a x hk hf H
    refine VX11_cut_103 ?_
    unfold DX11_cut_103 DX11_cut_145
    rw [sub32 hf (by omega), succ32]
    refine ⟨ok29 F, R_byteAt F hT (by omega) (fun _ => ⟨_, rfl, R_isL (fun _ => ⟨_, rfl, fun h0 => ⟨31, rf29_2 F, ?_, ?_⟩, fun h0 => ⟨?_, ?_⟩⟩)⟩)⟩
    · intro hc
      have h0 : ¬ isL (b a) = true := by intro z; rw [if_pos z] at h0; exact absurd h0 (by decide)
      have hc : a - f ≤ 10 := (le32 (b := 10) (by omega) (by decide)).mp hc
      unfold runF w27 at H
      rw [if_neg h0, if_neg h0, if_pos hc] at H
      exact H
    · intro hc
      have h0 : ¬ isL (b a) = true := by intro z; rw [if_pos z] at h0; exact absurd h0 (by decide)
      have hc : ¬ a - f ≤ 10 := fun z => hc ((le32 (b := 10) (by omega) (by decide)).mpr z)
      unfold runF w27 at H
      rw [if_neg h0, if_neg h0, if_neg hc] at H
      exact H
    · intro hc
      have h0 : isL (b a) = true := by
        cases e : isL (b a) with
        | true => rfl
        | false => rw [e] at h0; exact absurd rfl h0
      have hc : 10 ≤ a - f := (le32 (a := 10) (by decide) (by omega)).mp hc
      unfold runF w27 at H
      rw [if_pos h0, if_pos h0, if_neg (by omega)] at H
      exact ih (a + 1) x (by omega) (by omega) H
    · intro hc
      have h0 : isL (b a) = true := by
        cases e : isL (b a) with
        | true => rfl
        | false => rw [e] at h0; exact absurd rfl h0
      have hc : ¬ 10 ≤ a - f := fun z => hc ((le32 (a := 10) (by decide) (by omega)).mpr z)
      refine R_byteAt F hT (by omega) (fun _ => ⟨_, rfl, ?_⟩)
      have hlt : a - f < 10 := by omega
      unfold runF w27 at H
      rw [if_pos h0, if_pos h0, if_pos hlt] at H
      exact ih (a + 1) _ (by omega) (by omega) H
theorem r_num {h n i f : Nat} {b : Nat → Int32} {Q : Option Value → Mem → Prop} {M : Mem} {y : Int32} (F : Fix M) (hT : TR M n b) : ∀ (k a : Nat) (x : Int64), a + k = n → f ≤ a →
    DX11_cut_253 (h + 1) 29 (Int32.ofNat i) (Int32.ofNat (runF isF b k a)) y (n10 b f k a x) 31 (Int32.ofNat i) (if runF isF b k a - f ≤ 6 then 2 else 4) M Q →
    T (h + 2) mdX11_cut 184 [(0, .ref 29), (1, .int (Int32.ofNat i)), (2, .int (Int32.ofNat a)), (3, .int y), (4, .int (Int32.ofNat f)), (7, .long x)] [] M Q := by
  intro k
  have hn := hT.1
  induction k with
  | zero =>
    intro a x hk hf H
    refine VX11_cut_184 ?_
    unfold DX11_cut_184
    have hb : b a = 0 := hT.2.2.2 a (by omega)
    refine ⟨ok29 F, R_byteAt F hT (by omega) (fun _ => ⟨_, rfl, R_isF (fun _ => ⟨_, rfl, fun _ => ⟨31, rf29_2 F, ?_, ?_⟩, fun hc => ?_⟩)⟩)⟩
    · rw [sub32 hf (by omega)]
      intro hc
      have hc : a - f ≤ 6 := (le32 (b := 6) (by omega) (by decide)).mp hc
      unfold runF n10 at H
      rw [if_pos hc] at H
      exact H
    · rw [sub32 hf (by omega)]
      intro hc
      have hc : ¬ a - f ≤ 6 := fun z => hc ((le32 (b := 6) (by omega) (by decide)).mpr z)
      unfold runF n10 at H
      rw [if_neg hc] at H
      exact H
    · rw [hb] at hc
      exact absurd (by decide) hc
  | succ k ih =>
    intro a x hk hf H
    refine VX11_cut_184 ?_
    unfold DX11_cut_184 DX11_cut_226
    rw [sub32 hf (by omega), succ32]
    refine ⟨ok29 F, R_byteAt F hT (by omega) (fun _ => ⟨_, rfl, R_isF (fun _ => ⟨_, rfl, fun h0 => ⟨31, rf29_2 F, ?_, ?_⟩, fun h0 => ⟨?_, ?_⟩⟩)⟩)⟩
    · intro hc
      have h0 : ¬ isF (b a) = true := by intro z; rw [if_pos z] at h0; exact absurd h0 (by decide)
      have hc : a - f ≤ 6 := (le32 (b := 6) (by omega) (by decide)).mp hc
      unfold runF n10 at H
      rw [if_neg h0, if_neg h0, if_pos hc] at H
      exact H
    · intro hc
      have h0 : ¬ isF (b a) = true := by intro z; rw [if_pos z] at h0; exact absurd h0 (by decide)
      have hc : ¬ a - f ≤ 6 := fun z => hc ((le32 (b := 6) (by omega) (by decide)).mpr z)
      unfold runF n10 at H
      rw [if_neg h0, if_neg h0, if_neg hc] at H
      exact H
    · intro hc
      have h0 : isF (b a) = true := by
        cases e : isF (b a) with
        | true => rfl
        | false => rw [e] at h0; exact absurd rfl h0
      have hc : 6 ≤ a - f := (le32 (a := 6) (by decide) (by omega)).mp hc
      unfold runF n10 at H
      rw [if_pos h0, if_pos h0, if_neg (by omega)] at H
      exact ih (a + 1) x (by omega) (by omega) H
    · intro hc
      have h0 : isF (b a) = true := by
        cases e : isF (b a) with
        | true => rfl
        | false => rw [e] at h0; exact absurd rfl h0
      have hc : ¬ 6 ≤ a - f := fun z => hc ((le32 (a := 6) (by decide) (by omega)).mpr z)
      refine R_byteAt F hT (by omega) (fun _ => ⟨_, rfl, ?_⟩)
      have hlt : a - f < 6 := by omega
      unfold runF n10 at H
      rw [if_pos h0, if_pos h0, if_pos hlt] at H
      exact ih (a + 1) _ (by omega) (by omega) H
def isSg (c : Int32) : Bool := c == 59 || c == 44 || c == 58 || c == 40 || c == 41 || c == 91 || c == 93 || c == 63 || c == 43 || c == 45 || c == 42 || c == 47 || c == 37 || c == 61 || c == 60 || c == 62
theorem R_isSign {h : Nat} {c : Int32} {M : Mem} {Q : Option Value → Mem → Prop} (H : Q (some (.int (if isSg c = true then 1 else 0))) M) : E (h + 1) mdX11_isSign [.int c] M Q := by
  refine KX11_isSign ?_
  unfold DX11_isSign_0 DX11_isSign_96 DX11_isSign_101
  have hz : ¬ c = 59 → ¬ c = 44 → ¬ c = 58 → ¬ c = 40 → ¬ c = 41 → ¬ c = 91 → ¬ c = 93 → ¬ c = 63 → ¬ c = 43 → ¬ c = 45 → ¬ c = 42 → ¬ c = 47 → ¬ c = 37 → ¬ c = 61 → ¬ c = 60 → ¬ c = 62 → Q (some (.int 0)) M := by
    intro z0 z1 z2 z3 z4 z5 z6 z7 z8 z9 z10 z11 z12 z13 z14 z15
    have e : isSg c = false := by simp [isSg, z0, z1, z2, z3, z4, z5, z6, z7, z8, z9, z10, z11, z12, z13, z14, z15]
    rw [e] at H
    exact H
  exact ⟨fun z => ⟨Or.inr rfl, by subst z; exact H⟩, fun z0 => ⟨fun z => ⟨Or.inr rfl, by subst z; exact H⟩, fun z1 => ⟨fun z => ⟨Or.inr rfl, by subst z; exact H⟩, fun z2 => ⟨fun z => ⟨Or.inr rfl, by subst z; exact H⟩, fun z3 => ⟨fun z => ⟨Or.inr rfl, by subst z; exact H⟩, fun z4 => ⟨fun z => ⟨Or.inr rfl, by subst z; exact H⟩, fun z5 => ⟨fun z => ⟨Or.inr rfl, by subst z; exact H⟩, fun z6 => ⟨fun z => ⟨Or.inr rfl, by subst z; exact H⟩, fun z7 => ⟨fun z => ⟨Or.inr rfl, by subst z; exact H⟩, fun z8 => ⟨fun z => ⟨Or.inr rfl, by subst z; exact H⟩, fun z9 => ⟨fun z => ⟨Or.inr rfl, by subst z; exact H⟩, fun z10 => ⟨fun z => ⟨Or.inr rfl, by subst z; exact H⟩, fun z11 => ⟨fun z => ⟨Or.inr rfl, by subst z; exact H⟩, fun z12 => ⟨fun z => ⟨Or.inr rfl, by subst z; exact H⟩, fun z13 => ⟨fun z => ⟨Or.inr rfl, by subst z; exact H⟩, fun z14 => ⟨fun z15 => ⟨Or.inl rfl, hz z0 z1 z2 z3 z4 z5 z6 z7 z8 z9 z10 z11 z12 z13 z14 z15⟩, fun z => ⟨Or.inr rfl, by subst z; exact H⟩⟩⟩⟩⟩⟩⟩⟩⟩⟩⟩⟩⟩⟩⟩⟩⟩
def tw (c d : Int32) : Bool := decide (c = 124 ∧ d = 124) || decide ((c = 58 ∨ c = 33 ∨ c = 60 ∨ c = 62) ∧ d = 61)
def sgS (c d : Int32) : Int32 := if tw c d = true ∨ isSg c = true then 3 else 4
def sgV (c d : Int32) : Int64 := if tw c d = true then (256 * c.toInt64) + d.toInt64 else c.toInt64
theorem r_sgn2 {h i a : Nat} {c d y s : Int32} {M : Mem} {Q : Option Value → Mem → Prop} (F : Fix M) (hi : i < 802) (htw : tw c d = true) (hs : s = 3) (H : DX11_cut_374 h 29 (Int32.ofNat i) (Int32.ofNat (a + 2)) y (sgV c d) (wAI M 31 i (sgS c d)) Q) : DX11_cut_336 h 29 (Int32.ofNat i) (Int32.ofNat a) y c d 1 31 (Int32.ofNat i) s M Q := by
  unfold DX11_cut_336 DX11_cut_359 DX11_cut_372
  rw [lt32 (by omega)]
  unfold sgV sgS at H
  rw [if_pos htw, if_pos (Or.inl htw)] at H
  refine ⟨ok31 F, by rw [ln31 F]; exact vp_of hi (by decide), fun M2 e2 => ⟨fun hc => absurd hc (by decide), fun _ => ⟨fun hc => absurd hc (by decide), fun _ => ?_⟩⟩⟩
  rw [e2, hs]
  have e : Int32.ofNat a + 2 = Int32.ofNat (a + 2) := add32 (c := 2)
  rw [e]
  exact H
theorem r_sgn1 {h i a : Nat} {c d y s : Int32} {M : Mem} {Q : Option Value → Mem → Prop} (F : Fix M) (hi : i < 802) (htw : ¬ tw c d = true) (hs : s = if isSg c = true then 3 else 4) (H : DX11_cut_374 h 29 (Int32.ofNat i) (Int32.ofNat (a + 1)) y (sgV c d) (wAI M 31 i (sgS c d)) Q) : DX11_cut_336 h 29 (Int32.ofNat i) (Int32.ofNat a) y c d 0 31 (Int32.ofNat i) s M Q := by
  unfold DX11_cut_336 DX11_cut_359 DX11_cut_372
  rw [lt32 (by omega)]
  unfold sgV sgS at H
  rw [if_neg htw] at H
  refine ⟨ok31 F, by rw [ln31 F]; exact vp_of hi (by decide), fun M2 e2 => ⟨fun _ => ⟨fun _ => ?_, fun hc => absurd rfl hc⟩, fun hc => absurd rfl hc⟩⟩
  rw [e2, hs, succ32]
  by_cases hg : isSg c = true
  · rw [if_pos hg]
    rw [if_pos (Or.inr hg)] at H
    exact H
  · rw [if_neg hg]
    rw [if_neg (by rintro (z | z); exact htw z; exact hg z)] at H
    exact H
theorem r_sgn {h i a : Nat} {c d y : Int32} {M : Mem} {Q : Option Value → Mem → Prop} (F : Fix M) (hi : i < 802) (H : DX11_cut_374 (h + 1) 29 (Int32.ofNat i) (Int32.ofNat (a + (if tw c d = true then 2 else 1))) y (sgV c d) (wAI M 31 i (sgS c d)) Q) :
    (¬ c = 124 → DX11_cut_271 (h + 1) 29 (Int32.ofNat i) (Int32.ofNat a) y c d M Q) ∧ (c = 124 → (d = 124 → DX11_cut_306 (h + 1) 29 (Int32.ofNat i) (Int32.ofNat a) y c d M Q) ∧ (¬ d = 124 → DX11_cut_271 (h + 1) 29 (Int32.ofNat i) (Int32.ofNat a) y c d M Q)) := by
  have two : tw c d = true → DX11_cut_306 (h + 1) 29 (Int32.ofNat i) (Int32.ofNat a) y c d M Q := by
    intro htw
    rw [if_pos htw] at H
    unfold DX11_cut_306 DX11_cut_311 DX11_cut_331
    exact ⟨ok29 F, 31, rf29_2 F, fun _ => r_sgn2 F hi htw rfl H, fun hc => absurd hc (by decide)⟩
  have one : ¬ tw c d = true → DX11_cut_310 (h + 1) 29 (Int32.ofNat i) (Int32.ofNat a) y c d M Q := by
    intro htw
    rw [if_neg htw] at H
    unfold DX11_cut_310 DX11_cut_311 DX11_cut_331
    refine ⟨ok29 F, 31, rf29_2 F, fun hc => absurd rfl hc, fun _ => R_isSign (fun _ => ⟨_, rfl, fun h0 => ?_, fun h0 => ?_⟩)⟩
    · have h0 : ¬ isSg c = true := by intro z; rw [if_pos z] at h0; exact absurd h0 (by decide)
      exact r_sgn1 F hi htw (by rw [if_neg h0]) H
    · have h0 : isSg c = true := by
        cases e : isSg c with
        | true => rfl
        | false => rw [e] at h0; exact absurd rfl h0
      exact r_sgn1 F hi htw (by rw [if_pos h0]) H
  have twd : ¬ (c = 124 ∧ d = 124) → DX11_cut_271 (h + 1) 29 (Int32.ofNat i) (Int32.ofNat a) y c d M Q := by
    intro hn
    have e2 : tw c d = true ↔ (c = 58 ∨ c = 33 ∨ c = 60 ∨ c = 62) ∧ d = 61 := by unfold tw; simp [hn]
    unfold DX11_cut_271 DX11_cut_299
    have g : (c = 58 ∨ c = 33 ∨ c = 60 ∨ c = 62) → (¬ d = 61 → DX11_cut_310 (h + 1) 29 (Int32.ofNat i) (Int32.ofNat a) y c d M Q) ∧ (d = 61 → DX11_cut_306 (h + 1) 29 (Int32.ofNat i) (Int32.ofNat a) y c d M Q) := fun q => ⟨fun z => one (fun w => z (e2.mp w).2), fun z => two (e2.mpr ⟨q, z⟩)⟩
    refine ⟨fun q => g (Or.inl q), fun q1 => ⟨fun q => g (Or.inr (Or.inl q)), fun q2 => ⟨fun q => g (Or.inr (Or.inr (Or.inl q))), fun q3 => ⟨fun q4 => one (fun w => ?_), fun q => g (Or.inr (Or.inr (Or.inr q)))⟩⟩⟩⟩
    rcases (e2.mp w).1 with r | r | r | r
    · exact q1 r
    · exact q2 r
    · exact q3 r
    · exact q4 r
  refine ⟨fun q => twd (fun z => q z.1), fun q => ⟨fun r => two (by unfold tw; simp [q, r]), fun r => twd (fun z => r z.2)⟩⟩
def rS (b : Nat → Int32) (n p : Nat) : Int32 := if n ≤ p then 0 else if isL (b p) = true then (if rnE isL b n p - p ≤ 10 then 1 else 4) else if isF (b p) = true then (if rnE isF b n p - p ≤ 6 then 2 else 4) else sgS (b p) (b (p + 1))
def rV (b : Nat → Int32) (n p : Nat) : Int64 := if n ≤ p then 0 else if isL (b p) = true then w27 b p (n - p) p 0 else if isF (b p) = true then n10 b p (n - p) p 0 else sgV (b p) (b (p + 1))
def rE (b : Nat → Int32) (n p : Nat) : Nat := if n ≤ p then p else if isL (b p) = true then rnE isL b n p else if isF (b p) = true then rnE isF b n p else p + (if tw (b p) (b (p + 1)) = true then 2 else 1)
def rcF (M : Mem) (i p n : Nat) (b : Nat → Int32) : Mem := wAJ (wAI (wAI M 32 i (Int32.ofNat p)) 31 i (rS b n p)) 33 i (rV b n p)
theorem r_end {h i e : Nat} {v : Int64} {s : Int32} {M M1 : Mem} {Q : Option Value → Mem → Prop} (F : Fix M) (hi : i < 802) (hM1 : M1 = wAI M 31 i s) (hs : s ≠ 0) (H : T (h + 1) mdX11_cut 6 [(0, .ref 29), (1, .int (Int32.ofNat (i + 1))), (2, .int (Int32.ofNat e)), (3, .int (if s = 4 then 0 else 1))] [] (wAJ M1 33 i v) Q) : DX11_cut_374 h 29 (Int32.ofNat i) (Int32.ofNat e) 1 v M1 Q := by
  unfold DX11_cut_374 DX11_cut_400 DX11_cut_401
  rw [lt32 (by omega), succ32]
  have F1 : Fix M1 := by rw [hM1]; exact F.ai
  refine ⟨ok29 F1, 33, rf29_4 F1, ok33 F1, by rw [ln33 F1]; exact vp_of hi (by decide), fun M4 e4 => ⟨fun hc => absurd hc (by decide), fun _ => ?_⟩⟩
  have F4 : Fix M4 := by rw [e4]; exact F1.aj (by decide)
  rw [← e4] at H
  have e31 : mAI M4 31 i = s := by rw [e4, hM1]; simp [mNwI, mSwI, mKwI, mIwI, mJwI, mRwI, mLwI, mAIwI, mAJwI, mARwI, mNwJ, mSwJ, mKwJ, mIwJ, mJwJ, mRwJ, mLwJ, mAIwJ, mAJwJ, mARwJ, mNwR, mSwR, mKwR, mIwR, mJwR, mRwR, mLwR, mAIwR, mAJwR, mARwR, mNwAI, mSwAI, mKwAI, mIwAI, mJwAI, mRwAI, mLwAI, mAIwAI, mAJwAI, mARwAI, mNwAJ, mSwAJ, mKwAJ, mIwAJ, mJwAJ, mRwAJ, mLwAJ, mAIwAJ, mAJwAJ, mARwAJ, mNwAR, mSwAR, mKwAR, mIwAR, mJwAR, mRwAR, mLwAR, mAIwAR, mAJwAR, mARwAR, okkwI, okkwJ, okkwR, okkwAI, okkwAJ, okkwAR]
  refine ⟨31, rf29_2 F4, ok31 F4, by rw [ln31 F4]; exact vp_of hi (by decide), fun hc => ?_, fun hc => ?_⟩
  · rw [e31] at hc
    rw [if_pos hc] at H
    exact H
  · rw [e31] at hc
    rw [if_neg hc] at H
    exact H
