/-! the reference's compile, up to the end of the text -/
abbrev RGc (m : Nat) (M M' : Mem) : Prop := RG m [1, 5, 6, 7, 19, 29, 31, 32, 33, 53, 60] [31, 32, 34, 35, 36, 38, 39, 40, 41, 44, 45, 46, 47, 48, 49, 51, 52, 53, 54, 55, 56, 57, 58, 59, 60, 61, 62, 63, 64, 65, 66, 67, 68, 69, 70, 71, 73, 74, 75, 76, 77, 78, 79, 122] [33, 37, 42, 43, 50, 72] M M'
/-- inputs and first numbers, as the told leaves them -/
def RTq (m : Nat) (τ : Td) (M : Mem) : Prop := (mAI M 35 m = Int32.ofNat (inL τ.2.1).length ∧ (inL τ.2.1).length ≤ 4 ∧ ∀ j, j < (inL τ.2.1).length → mAI M 41 (4 * m + j) = Int32.ofNat ((inL τ.2.1).getD j 0)) ∧ (τ.2.2.2.2.length = τ.2.2.2.1.length ∧ ∀ k, k < τ.2.2.2.1.length → mAJ M 43 (6 * m + k) = τ.2.2.2.2.getD k 0)
section
variable {b : Nat → Int32} {n s m : Nat} {τ : Td} {M Mi M0 M2 M' : Mem} {i h : Nat} {Q : Option Value → Mem → Prop} {A : Nat → Nat → Int32} {B : Nat → Int64} {Zt : Nat → Nat → Int32}
theorem RGt.c (k : RGt m M M') : RGc m M M' := k.more (by decide) (by decide) (by decide)
theorem RGp.c (k : RGp m M M') : RGc m M M' := k.more (by decide) (by decide) (by decide)
theorem RFr.c (k : RFr M M') : RGc m M M' := by
  obtain ⟨a1, a2, a3, a4, a5, a6, a7, a8, a9, a10⟩ := k
  refine ⟨a1, a2, a3, a4, a5, a6, a7, fun a _ => by rw [a8], fun f _ => by rw [a8], fun a ha => a9 a (fun z => ha (by rw [z]; decide)) (fun z => ha (by rw [z]; decide)), fun a ha => a10 a (fun z => ha (by rw [z]; decide)), fun a q hq => ?_⟩
  have e31 : szA 31 = 0 := by decide
  have e32 : szA 32 = 0 := by decide
  have e33 : szA 33 = 0 := by decide
  refine ⟨?_, ?_⟩
  · by_cases z : a = 31
    · rw [z, e31] at hq; omega
    · by_cases z2 : a = 32
      · rw [z2, e32] at hq; omega
      · rw [a9 a z z2]
  · by_cases z : a = 33
    · rw [z, e33] at hq; omega
    · rw [a10 a z]
theorem cz {c q : Nat} {P : Mem → Prop} (hr : mR Mi 29 q = some c) (ho : ok Mi c 21) (hl : mL Mi c = 4) (h19 : mI Mi 29 19 = Int32.ofNat m) (h4 : m < 4) (H : ∀ M', M' = wAI Mi c m 0 → P M') : ∃ b4 : Nat, mR Mi 29 q = some b4 ∧ ok Mi b4 21 ∧ vp_in (mI Mi 29 19) (mL Mi b4) ∧ ∀ M6, M6 = wAI Mi b4 (mI Mi 29 19 : Int32).toNatClampNeg 0 → P M6 := by
  refine ⟨c, hr, ho, by rw [hl, h19]; exact vp_of h4 (by decide), fun M6 e6 => ?_⟩
  rw [h19, lt32 (by omega)] at e6
  exact H M6 e6
/-- a counter of module m is set to 0 -/
def Zer (m : Nat) (n : Nat) (b : Nat → Int32) (M Mi : Mem) (cs : List Nat) : Prop := Fix Mi ∧ mI Mi 29 19 = Int32.ofNat m ∧ mI Mi 29 6 = 0 ∧ TR Mi n b ∧ RGc m M Mi ∧ (∀ c ∈ cs, mAI Mi c m = 0) ∧ (∀ c, 58 ≤ c → c ≤ 75 → mAI Mi c = mAI M c) ∧ mAJ Mi 72 = mAJ M 72 ∧ (∀ q, q ≠ m → mAI Mi 122 q = mAI M 122 q)
theorem Zer.w {c : Nat} {cs : List Nat} (hZ : Zer m n b M Mi cs) (hc : c ∈ [34, 35, 36, 44, 48, 54, 55, 56, 57, 79, 122]) (e : M' = wAI Mi c m 0) : Zer m n b M M' (c :: cs) := by
  obtain ⟨h1, h2, h3, h4, h5, h6, h7, h8, h9⟩ := hZ
  have cl : c ≠ 30 ∧ (c < 58 ∨ 75 < c) ∧ c ∈ [31, 32, 34, 35, 36, 38, 39, 40, 41, 44, 45, 46, 47, 48, 49, 51, 52, 53, 54, 55, 56, 57, 58, 59, 60, 61, 62, 63, 64, 65, 66, 67, 68, 69, 70, 71, 73, 74, 75, 76, 77, 78, 79, 122] ∧ szA c * m ≤ m := by
    simp only [List.mem_cons, List.not_mem_nil, or_false] at hc
    rcases hc with z | z | z | z | z | z | z | z | z | z | z <;> rw [z] <;> refine ⟨by decide, by decide, by decide, ?_⟩
    all_goals first
      | (rw [show szA 34 = 1 by decide]; omega) | (rw [show szA 35 = 1 by decide]; omega) | (rw [show szA 36 = 1 by decide]; omega) | (rw [show szA 44 = 1 by decide]; omega) | (rw [show szA 48 = 1 by decide]; omega) | (rw [show szA 54 = 1 by decide]; omega) | (rw [show szA 55 = 1 by decide]; omega) | (rw [show szA 56 = 1 by decide]; omega) | (rw [show szA 57 = 1 by decide]; omega) | (rw [show szA 79 = 1 by decide]; omega) | (rw [show szA 122 = 1 by decide]; omega)
  refine ⟨by rw [e]; exact h1.ai, by rw [e]; exact h2, by rw [e]; exact h3, by rw [e]; exact h4.ai cl.1, h5.tr (by rw [e]; exact RG.ai cl.2.2.1 cl.2.2.2), fun c2 hc2 => ?_, fun c2 z1 z2 => by rw [e]; exact (up2_row (f := mAI Mi) (a := c) (k := m) (v := 0) (by omega)).trans (h7 c2 z1 z2), by rw [e]; exact h8, fun q hq => ?_⟩
  · rw [e, mAI_wAI]
    by_cases z : c2 = c
    · rw [if_pos ⟨z, rfl⟩]
    · rw [if_neg (fun y => z y.1)]
      rcases List.mem_cons.mp hc2 with y | y
      · exact absurd y z
      · exact h6 c2 y
  · rw [e, mAI_wAI, if_neg (fun y => hq y.2)]
    exact h9 q hq
def EndRC (b : Nat → Int32) (n m h : Nat) (M : Mem) (Q : Option Value → Mem → Prop) (R : Except (Int32 × Nat) (Nat × Td × PS × Nat)) : Prop := match R with
  | .error e => ∀ M', TXr M' e.1 e.2 → RGc m M M' → Q (some (.int (-10 - Int32.ofNat e.2))) M'
  | .ok r => ∀ s M', Sto b n s → RPs b n s m r.2.1 [] r.2.2.1 M' r.1 0 → RTq m r.2.1 M' → (mAI M' 79 m = 0 ∧ mAI M' 122 m = 0) → RGc m M M' → DX11_compile_188 h 29 0 M' Q
theorem X_188 {f x : Int32} {p : Nat} (hT : TXr M f p) (H : Q (some (.int (-10 - Int32.ofNat p))) M) : DX11_compile_188 h 29 x M Q := by
  have n0 := hT.n0
  unfold DX11_compile_188 DX11_compile_205
  refine ⟨ok29 hT.1, fun _ => ⟨ok29 hT.1, fun z => ?_, fun _ => ?_⟩, fun z => absurd z n0⟩
  · rw [hT.2.1] at z
    exact absurd hT.2.2.1 (Int32.not_lt.mpr z)
  · rw [hT.2.2.2]; exact H
theorem R_169 (hB : By b) (hz : ∀ i, n ≤ i → b i = 0) (hS : Sto b n s) (hR : RT b n s m td0 M0 0) (k0 : tK b n 0 ≠ 0) (hG : RGc m M M0) (hc : mAI M0 48 m = 0 ∧ mAI M0 44 m = 0 ∧ mAI M0 54 m = 0 ∧ mAI M0 55 m = 0 ∧ mAI M0 56 m = 0 ∧ mAI M0 57 m = 0 ∧ mAI M0 79 m = 0 ∧ mAI M0 122 m = 0) (hA : ∀ c, 58 ≤ c → c ≤ 75 → c ≠ 72 → mAI M0 c = A c) (hN : mAJ M0 72 = B) (hE : EndRC b n m (h + 15) M Q (rdM b n m A B Zt)) : DX11_compile_169 (h + 15) 29 M0 Q := by
  have F := hR.1.1
  unfold rdM at hE
  rw [if_neg k0] at hE
  unfold DX11_compile_169
  refine ⟨ok29 F, KX11_readTold ?_⟩
  unfold DX11_readTold_0
  refine T_told (h := h + 9) hB hS 900 M0 0 td0 (by have := hS.1; have := hS.2.1; omega) hR k0 ?_
  cases et : td b n 900 0 td0 with
  | error y =>
    rw [et] at hE
    intro M1 T1 G1 _
    have G := hG.tr G1.c
    exact ⟨rfl, fun _ => X_188 T1 (hE M1 T1 G), fun z => absurd z T1.n0⟩
  | ok r =>
    rw [et] at hE
    have hE : EndRC b n m (h + 15) M Q ((rdQ b n m r.2 r.1 (σI A B (cl0 Zt r.2))).bind fun q => .ok (q.1, r.2, q.2.1, q.2.2)) := hE
    have hmx : MxOk r.2 := td_mx 900 0 td0 r (fun k => Or.inl (by cases k <;> rfl)) et
    intro M1 R1 k1 G1 _
    refine ⟨rfl, fun z => absurd R1.2.2.2.1 z, fun _ => ?_⟩
    have fx : ∀ c, c ∉ [34, 35, 36, 38, 39, 40, 41] → mAI M1 c = mAI M0 c := fun c hc => G1.fA hc
    have jx : mAJ M1 72 = mAJ M0 72 := G1.fJ (by decide)
    refine R_parts (h := h) (A := A) (C := cl0 Zt r.2) hB hz hS hmx R1 k1 ⟨by rw [fx 48 (by decide)]; exact hc.1, by rw [fx 44 (by decide)]; exact hc.2.1, by rw [fx 54 (by decide)]; exact hc.2.2.1, by rw [fx 55 (by decide)]; exact hc.2.2.2.1, by rw [fx 56 (by decide)]; exact hc.2.2.2.2.1, by rw [fx 57 (by decide)]; exact hc.2.2.2.2.2.1⟩ (fun c z1 z2 z3 => ?_) (jx.trans hN) ?_
    · rw [fx c (by simp only [List.mem_cons, List.not_mem_nil, or_false, not_or]; omega)]
      exact hA c z1 z2 z3
    · cases eq : rdQ b n m r.2 r.1 (σI A B (cl0 Zt r.2)) with
      | error y =>
        rw [eq] at hE
        intro M3 T3 G3 _
        exact ⟨_, rfl, X_188 T3 (hE M3 T3 ((hG.tr G1.c).tr G3.c))⟩
      | ok q =>
        rw [eq] at hE
        intro M3 R3 G3 _
        have g79 : mAI M3 79 = mAI M0 79 := (G3.fA (c := 79) (by decide)).trans (fx 79 (by decide))
        have g122 : mAI M3 122 = mAI M0 122 := (G3.fA (c := 122) (by decide)).trans (fx 122 (by decide))
        have g35 : mAI M3 35 = mAI M1 35 := G3.fA (c := 35) (by decide)
        have g41 : mAI M3 41 = mAI M1 41 := G3.fA (c := 41) (by decide)
        have g43 : mAJ M3 43 = mAJ M1 43 := G3.fJ (c := 43) (by decide)
        refine ⟨_, rfl, hE s M3 hS R3 ⟨by rw [g35, g41]; exact R1.2.2.2.2.1, by rw [g43]; exact R1.2.2.2.2.2.1⟩ ⟨by rw [g79]; exact hc.2.2.2.2.2.2.1, by rw [g122]; exact hc.2.2.2.2.2.2.2⟩ ((hG.tr G1.c).tr G3.c)⟩
end
