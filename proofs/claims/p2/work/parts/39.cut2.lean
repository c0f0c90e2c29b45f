/-! cutting one token -/
theorem wAI_same {M : Mem} {a k : Nat} {v : Int32} (h : mAI M a k = v) : wAI M a k v = M := by
  subst h; unfold wAI; rw [up2_self]; rfl
theorem wAI_wAI (M : Mem) (a k : Nat) (v w : Int32) : wAI (wAI M a k v) a k w = wAI M a k w := by
  unfold wAI; simp only [mAI, up2_up2]; rfl
theorem mAI_own (M : Mem) (a k : Nat) (v : Int32) : mAI (wAI M a k v) a k = v := up2_eq
def keyK (c : Int64) : Nat → Nat → Int32
  | 0, _ => 2
  | k + 1, j => if keysF j = c then 30 + Int32.ofNat j else keyK c k (j + 1)
theorem key_stop {h i : Nat} {x : Int64} {y : Int32} {M : Mem} {Q : Option Value → Mem → Prop} (F : Fix M) (hi : i < 801) (hk : mAI M 16 i ≠ 2) (H : Q none M) : T (h + 1) mdX7_cutWord 87 [(0, .ref 15), (1, .int (Int32.ofNat i)), (2, .long x), (5, .int y)] [] M Q := by
  refine VX7_cutWord_87 ?_
  unfold DX7_cutWord_87 DX7_cutWord_133
  rw [lt32 (by omega)]
  refine ⟨fun _ => H, fun _ => ⟨ok15 F, 16, rf15_4 F, ok16 F, by rw [ln16 F]; exact vp_of hi (by decide), fun _ => H, fun hc => absurd hc hk⟩⟩
theorem key_loop {h i : Nat} {x : Int64} {M : Mem} {Q : Option Value → Mem → Prop} (F : Fix M) (hi : i < 801) (hk : mAI M 16 i = 2) : ∀ (k j : Nat), j + k = 33 → Q none (wAI M 16 i (keyK x k j)) → T (h + 1) mdX7_cutWord 87 [(0, .ref 15), (1, .int (Int32.ofNat i)), (2, .long x), (5, .int (Int32.ofNat j))] [] M Q := by
  intro k
  induction k with
  | zero =>
    intro j hj H
    have hj : j = 33 := hj
    subst hj
    refine VX7_cutWord_87 ?_
    unfold DX7_cutWord_87 DX7_cutWord_133
    unfold keyK at H
    rw [wAI_same hk] at H
    exact ⟨fun _ => H, fun hc => absurd (by decide) hc⟩
  | succ k ih =>
    intro j hj H
    refine VX7_cutWord_87 ?_
    unfold DX7_cutWord_87 DX7_cutWord_133 DX7_cutWord_127
    rw [lt32 (n := i) (by omega), lt32 (n := j) (by omega), succ32]
    unfold keyK at H
    refine ⟨fun hc => absurd ((le32 (a := 33) (by decide) (by omega)).mp hc) (by omega), fun _ => ⟨ok15 F, 16, rf15_4 F, ok16 F, by rw [ln16 F]; exact vp_of hi (by decide), fun hc => absurd hk hc, fun _ => ⟨19, rf15_1 F, ok19 F, by rw [ln19 F]; exact vp_of (by omega) (by decide), fun hc => ?_, fun hc => ?_⟩⟩⟩
    · rw [F.2.2.2.2, lgz] at hc
      rw [if_neg hc] at H
      exact ih (j + 1) (by omega) H
    · rw [F.2.2.2.2, lgz] at hc
      rw [if_pos hc] at H
      refine ⟨16, rf15_4 F, ok16 F, by rw [ln16 F]; exact vp_of hi (by decide), fun M8 e8 => ?_⟩
      rw [← e8] at H
      refine key_stop (by rw [e8]; exact F.ai) hi ?_ H
      rw [e8, mAI_own]
      intro z
      have z : Int32.ofNat 30 + Int32.ofNat j = Int32.ofNat 2 := z
      rw [add32] at z
      have := inj32 (by omega) (by decide) z
      omega
/-- the end of the run of signs that p tells, from a on, of n signs -/
abbrev rnE (p : Int32 → Bool) (b : Nat → Int32) (n a : Nat) : Nat := runF p b (n - a) a
def cwF (M : Mem) (i a n : Nat) (b : Nat → Int32) : Mem := wAI (wAJ (wI M 15 3 (Int32.ofNat (rnE isL b n a))) 18 i (spellF b (n - a) a 0)) 16 i (if rnE isL b n a - a ≤ 10 then keyK (spellF b (n - a) a 0) 33 0 else 0)
theorem S_cutWord {h n a i : Nat} {b : Nat → Int32} {M : Mem} {Q : Option Value → Mem → Prop} (F : Fix M) (hT : TX M n b) (ha : mI M 15 3 = Int32.ofNat a) (han : a ≤ n) (hi : i < 801) (H : Q none (cwF M i a n b)) : E (h + 2) mdX7_cutWord [.ref 15, .int (Int32.ofNat i)] M Q := by
  refine KX7_cutWord ?_
  unfold DX7_cutWord_0
  have hr := runF_le (p := isL) (b := b) (n - a) a
  have hn := hT.1
  refine word_loop (n - a) a 0 0 M (by omega) F hT ha ?_
  unfold DX7_cutWord_59 DX7_cutWord_83
  rw [lt32 (n := i) (by omega), Nat.zero_add]
  have F1 : Fix (wI M 15 3 (Int32.ofNat (runF isL b (n - a) a))) := F.i
  generalize e1 : wI M 15 3 (Int32.ofNat (runF isL b (n - a) a)) = M1 at F1
  refine ⟨ok15 F1, 18, rf15_6 F1, ok18 F1, by rw [ln18 F1]; exact vp_of hi (by decide), fun M4 e4 => ?_⟩
  have F4 : Fix M4 := by rw [e4]; exact F1.aj (by decide)
  unfold cwF at H
  refine ⟨16, rf15_4 F4, fun hc => ⟨ok16 F4, by rw [ln16 F4]; exact vp_of hi (by decide), fun M2 e2 => ?_⟩, fun hc => ⟨ok16 F4, by rw [ln16 F4]; exact vp_of hi (by decide), fun M2 e2 => ?_⟩⟩
  · have hc : runF isL b (n - a) a - a ≤ 10 := (le32 (b := 10) (by omega) (by decide)).mp hc
    have F2 : Fix M2 := by rw [e2]; exact F4.ai
    refine key_loop F2 hi (by rw [e2]; exact mAI_own _ _ _ _) 33 0 rfl ?_
    rw [if_pos hc] at H
    rw [e2, wAI_wAI, e4, ← e1]
    exact H
  · have hc : ¬ runF isL b (n - a) a - a ≤ 10 := fun z => hc ((le32 (b := 10) (by omega) (by decide)).mpr z)
    have F2 : Fix M2 := by rw [e2]; exact F4.ai
    refine key_stop F2 hi (by rw [e2, mAI_own]; decide) ?_
    rw [if_neg hc] at H
    rw [e2, e4, ← e1]
    exact H
def cnF (M : Mem) (i a n : Nat) (b : Nat → Int32) : Mem := wAI (wAJ (wI M 15 3 (Int32.ofNat (rnE isF b n a))) 18 i (numF b (n - a) a 0)) 16 i (if rnE isF b n a - a ≤ 6 then 3 else 0)
theorem S_cutNum {h n a i : Nat} {b : Nat → Int32} {M : Mem} {Q : Option Value → Mem → Prop} (F : Fix M) (hT : TX M n b) (ha : mI M 15 3 = Int32.ofNat a) (han : a ≤ n) (hi : i < 801) (H : Q none (cnF M i a n b)) : E (h + 2) mdX7_cutNumber [.ref 15, .int (Int32.ofNat i)] M Q := by
  refine KX7_cutNumber ?_
  unfold DX7_cutNumber_0
  have hr := runF_le (p := isF) (b := b) (n - a) a
  have hn := hT.1
  refine num_loop (n - a) a 0 0 M (by omega) F hT ha ?_
  unfold DX7_cutNumber_66 DX7_cutNumber_90
  rw [lt32 (n := i) (by omega), Nat.zero_add]
  have F1 : Fix (wI M 15 3 (Int32.ofNat (runF isF b (n - a) a))) := F.i
  generalize e1 : wI M 15 3 (Int32.ofNat (runF isF b (n - a) a)) = M1 at F1
  refine ⟨ok15 F1, 18, rf15_6 F1, ok18 F1, by rw [ln18 F1]; exact vp_of hi (by decide), fun M4 e4 => ?_⟩
  have F4 : Fix M4 := by rw [e4]; exact F1.aj (by decide)
  unfold cnF at H
  refine ⟨16, rf15_4 F4, fun hc => ⟨ok16 F4, by rw [ln16 F4]; exact vp_of hi (by decide), fun M2 e2 => ?_⟩, fun hc => ⟨ok16 F4, by rw [ln16 F4]; exact vp_of hi (by decide), fun M2 e2 => ?_⟩⟩
  · have hc : runF isF b (n - a) a - a ≤ 6 := (le32 (b := 6) (by omega) (by decide)).mp hc
    rw [if_pos hc] at H
    rw [e2, e4, ← e1]
    exact H
  · have hc : ¬ runF isF b (n - a) a - a ≤ 6 := fun z => hc ((le32 (b := 6) (by omega) (by decide)).mpr z)
    rw [if_neg hc] at H
    rw [e2, e4, ← e1]
    exact H
/-! signs: the kind by the sign and the one behind it, and whether the one behind it belongs to it -/
def sgK (c d : Int32) : Int32 := if ¬ idxF c.toInt8.toInt32 12 0 < 0 then 13 + idxF c.toInt8.toInt32 12 0 else if c = 33 then (if d = 61 then 8 else 0) else if c = 58 then (if d = 61 then 5 else 4) else if c = 60 then (if d = 61 then 10 else 9) else if c = 61 then 7 else if c = 62 then (if d = 61 then 12 else 11) else if c = 124 then (if d = 124 then 6 else 0) else 0
def sgX (c d : Int32) : Nat := if ¬ idxF c.toInt8.toInt32 12 0 < 0 then 0 else if (c = 33 ∨ c = 58 ∨ c = 60 ∨ c = 62) ∧ d = 61 ∨ c = 124 ∧ d = 124 then 1 else 0
theorem S_withNext {h n a : Nat} {b : Nat → Int32} {M : Mem} {x p q : Int32} {Q : Option Value → Mem → Prop} (F : Fix M) (hT : TX M n b) (ha : mI M 15 3 = Int32.ofNat a) (han : a ≤ 1000) (H1 : b a = x → Q (some (.int p)) (wI M 15 3 (Int32.ofNat (a + 1)))) (H0 : b a ≠ x → Q (some (.int q)) M) : E (h + 2) mdX7_withNext [.ref 15, .int x, .int p, .int q] M Q := by
  refine KX7_withNext ?_
  unfold DX7_withNext_0
  rw [ha]
  refine ⟨ok15 F, S_byteAt F hT (by omega) (fun _ => ⟨_, rfl, fun hc M4 e4 => ?_, fun hc => H0 hc⟩)⟩
  rw [ha, succ32] at e4
  rw [e4]
  exact H1 hc
theorem c16 {c : Int32} (h0 : ¬ c < 0) (h1 : ¬ 255 < c) : ((c : Int32).toUInt32 % 65536).toInt32 = c := by
  have hk : ∀ k : Fin 256, ((Int32.ofNat k).toUInt32 % 65536).toInt32 = Int32.ofNat k := by decide +kernel
  have e : c = Int32.ofNat c.toInt.toNat := by
    have q0 : ¬ c.toInt < 0 := fun z => h0 (Int32.lt_iff_toInt_lt.mpr z)
    have q1 : ¬ 255 < c.toInt := fun z => h1 (Int32.lt_iff_toInt_lt.mpr z)
    refine Int32.toInt_inj.mp ?_
    rw [ti32 (by omega)]
    omega
  have q1 : ¬ 255 < c.toInt := fun z => h1 (Int32.lt_iff_toInt_lt.mpr z)
  have := hk ⟨c.toInt.toNat, by omega⟩
  rw [e]
  exact this
theorem S_signKind {h n a : Nat} {b : Nat → Int32} {M : Mem} {Q : Option Value → Mem → Prop} (F : Fix M) (hT : TX M n b) (ha : mI M 15 3 = Int32.ofNat a) (han : a < n) (h0 : ¬ b a < 0) (h1 : ¬ 255 < b a) (H : Q (some (.int (sgK (b a) (b (a + 1))))) (wI M 15 3 (Int32.ofNat (a + 1 + sgX (b a) (b (a + 1)))))) : E (h + 6) mdX7_signKind [.ref 15, .int (b a)] M Q := by
  refine KX7_signKind ?_
  unfold DX7_signKind_0
  rw [ha, succ32, c16 h0 h1]
  have hn := hT.1
  refine ⟨ok15 F, fun M2 e2 => S_indexOf h0 h1 (fun _ => ⟨_, rfl, fun hc => ?_, fun hc => ?_⟩)⟩
  · have F2 : Fix M2 := by rw [e2]; exact F.i
    have T2 : TX M2 n b := by rw [e2]; exact hT.wI3
    have a2 : mI M2 15 3 = Int32.ofNat (a + 1) := by rw [e2]; exact mI_own _ _ _ _
    have g : ∀ (x p q : Int32), (b (a + 1) = x → Q (some (.int p)) (wI M 15 3 (Int32.ofNat (a + 1 + 1)))) → (b (a + 1) ≠ x → Q (some (.int q)) (wI M 15 3 (Int32.ofNat (a + 1)))) → E (h + 5) mdX7_withNext [.ref 15, .int x, .int p, .int q] M2 (fun r M5 => mE M2 M5 → ∃ r6 : Int32, r = some (.int r6) ∧ Q (some (.int r6)) M5) := by
      intro x p q g1 g0
      refine S_withNext F2 T2 a2 (by omega) (fun z => fun _ => ⟨_, rfl, ?_⟩) (fun z => fun _ => ⟨_, rfl, ?_⟩)
      · rw [e2, wI_wI]; exact g1 z
      · rw [e2]; exact g0 z
    unfold sgK sgX at H
    simp only [hc, not_true_eq_false, if_false] at H
    refine ⟨fun z => ?_, fun z => ?_, fun z => ?_, fun z => ?_, fun z => ?_, fun z => ?_, fun z => ?_⟩
    · rw [z] at H
      refine g 61 8 0 (fun y => ?_) (fun y => ?_)
      · simpa [y] using H
      · simpa [y] using H
    · rw [z] at H
      refine g 61 5 4 (fun y => ?_) (fun y => ?_)
      · simpa [y] using H
      · simpa [y] using H
    · rw [z] at H
      refine g 61 10 9 (fun y => ?_) (fun y => ?_)
      · simpa [y] using H
      · simpa [y] using H
    · rw [z] at H
      rw [e2]
      simpa using H
    · rw [z] at H
      refine g 61 12 11 (fun y => ?_) (fun y => ?_)
      · simpa [y] using H
      · simpa [y] using H
    · rw [z] at H
      refine g 124 6 0 (fun y => ?_) (fun y => ?_)
      · simpa [y] using H
      · simpa [y] using H
    · obtain ⟨z1, z2, z3, z4, z5, z6⟩ := z
      rw [e2]
      simpa [z1, z2, z3, z4, z5, z6] using H
  · unfold sgK sgX at H
    rw [if_pos hc, if_pos hc] at H
    rw [e2]
    exact H
