/-! the reference builds nodes: node, adopt, over -/
abbrev csB : List Nat := [79, 80, 81, 82, 83, 84, 85, 86, 87, 88, 89, 90, 92, 93, 94]
abbrev RGb (m : Nat) (M M' : Mem) : Prop := RG m [] csB [] M M'
/-- while nodes are built: module m, its parts' cells A, parts' nodes pn, nodes S -/
def BuM (m : Nat) (A : Nat → Nat → Int32) (pn : Nat → Int32) (S : RBs) (M : Mem) : Prop := Fix M ∧ m < 4 ∧ mI M 29 19 = Int32.ofNat m ∧ mAI M 79 m = Int32.ofNat S.1 ∧ (∀ c, 80 ≤ c → c ≤ 89 → mAI M c = S.2 c) ∧ (∀ c, 58 ≤ c → c ≤ 75 → c ≠ 72 → mAI M c = A c) ∧ mAI M 90 = pn
def RnE (f g : Nat → Nat → Int32) : Prop := ∀ c, 80 ≤ c → c ≤ 89 → f c = g c
section
variable {f g : Nat → Nat → Int32} {a k : Nat} {v : Int32}
theorem RnE.up (h : RnE f g) : RnE (up2 f a k v) (up2 g a k v) := fun c h1 h2 => by
  funext j
  unfold up2
  rw [h c h1 h2]
theorem RnE.out (h : RnE f g) (ha : a < 80 ∨ 89 < a) : RnE (up2 f a k v) g := fun c h1 h2 => by
  rw [up2_row (by omega)]
  exact h c h1 h2
end
theorem sz80 {c : Nat} (h1 : 80 ≤ c) (h2 : c ≤ 89) : szA c = 700 := by
  have : c = 80 ∨ c = 81 ∨ c = 82 ∨ c = 83 ∨ c = 84 ∨ c = 85 ∨ c = 86 ∨ c = 87 ∨ c = 88 ∨ c = 89 := by omega
  rcases this with e | e | e | e | e | e | e | e | e | e <;> subst e <;> decide
theorem cs80 {c : Nat} (h1 : 80 ≤ c) (h2 : c ≤ 89) : c ∈ csB := by
  have : c = 80 ∨ c = 81 ∨ c = 82 ∨ c = 83 ∨ c = 84 ∨ c = 85 ∨ c = 86 ∨ c = 87 ∨ c = 88 ∨ c = 89 := by omega
  rcases this with e | e | e | e | e | e | e | e | e | e <;> subst e <;> decide
section
variable {m : Nat} {A : Nat → Nat → Int32} {pn : Nat → Int32} {S S' : RBs} {G G' : Nat → List Nat} {M M' : Mem} {h : Nat} {Q : Option Value → Mem → Prop} {so pt : Int32} {c d p : Nat}
theorem BuM.w {k : Nat} {v : Int32} {S1 : Nat} (hB : BuM m A pn S M) (h1 : 80 ≤ c) (h2 : c ≤ 89) (hk : 700 * m ≤ k) : BuM m A pn (S.1, up2 S.2 c k v) (wAI M c k v) ∧ RGb m M (wAI M c k v) := by
  obtain ⟨F, b1, b2, b3, b4, b5, b6⟩ := hB
  have G : RGb m M (wAI M c k v) := RG.ai (cs80 h1 h2) (by rw [sz80 h1 h2]; exact hk)
  refine ⟨⟨G.fix F (by decide), b1, b2, ?_, RnE.up (f := mAI M) b4, fun q q1 q2 q3 => ?_, ?_⟩, G⟩
  · rw [mAI_wAI, if_neg (fun z => by omega)]; exact b3
  · have : mAI (wAI M c k v) = up2 (mAI M) c k v := rfl
    rw [this, up2_row (by omega)]
    exact b5 q q1 q2 q3
  · have : mAI (wAI M c k v) = up2 (mAI M) c k v := rfl
    rw [this, up2_row (by omega)]
    exact b6
theorem BuM.cn {v : Nat} (hB : BuM m A pn S M) : BuM m A pn (v, S.2) (wAI M 79 m (Int32.ofNat v)) ∧ RGb m M (wAI M 79 m (Int32.ofNat v)) := by
  obtain ⟨F, b1, b2, b3, b4, b5, b6⟩ := hB
  have G : RGb m M (wAI M 79 m (Int32.ofNat v)) := RG.ai (by decide) (by rw [show szA 79 = 1 by decide]; omega)
  have e : mAI (wAI M 79 m (Int32.ofNat v)) = up2 (mAI M) 79 m (Int32.ofNat v) := rfl
  refine ⟨⟨G.fix F (by decide), b1, b2, ?_, ?_, fun q q1 q2 q3 => ?_, ?_⟩, G⟩
  · rw [e]; exact up2_eq
  · rw [e]; exact RnE.out b4 (by decide)
  · rw [e, up2_row (by omega)]
    exact b5 q q1 q2 q3
  · rw [e, up2_row (by decide)]
    exact b6
theorem B_node (hB : BuM m A pn S M) (hf : S.1 < 700) (H : ∀ M', BuM m A pn (nBf m so pt S) M' → RGb m M M' → Q (some (.int (Int32.ofNat (700 * m + S.1)))) M') : E (h + 1) mdX11_node [.ref 29, .int so, .int pt] M Q := by
  obtain ⟨F, b1, b2, b3, -⟩ := id hB
  have lm : (Int32.ofNat m).toNatClampNeg = m := lt32 (by omega)
  have ln : (Int32.ofNat (700 * m + S.1)).toNatClampNeg = 700 * m + S.1 := lt32 (by omega)
  have ex : (700 : Int32) * Int32.ofNat m + Int32.ofNat S.1 = Int32.ofNat (700 * m + S.1) := by rw [Int32.ofNat_add, Int32.ofNat_mul]; rfl
  have v79 : ∀ {M : Mem}, Fix M → vp_in (Int32.ofNat m) (mL M 79) := fun F => by rw [ln79 F]; exact vp_of b1 (by decide)
  have v80 : ∀ {k : Nat}, k = 2800 → vp_in (Int32.ofNat (700 * m + S.1)) k := fun e => by rw [e]; exact vp_of (by omega) (by decide)
  refine KX11_node ?_
  unfold DX11_node_0
  rw [b2, lm]
  refine ⟨ok29 F, 79, rf29_61 F, ok79 F, v79 F, 79, rf29_61 F, ok79 F, v79 F, v79 F, fun M6 e6 => ?_⟩
  rw [b3, ex, ln]
  rw [b3, succ32] at e6
  obtain ⟨s6, g6⟩ := hB.cn (v := S.1 + 1)
  rw [← e6] at s6 g6
  have F6 := s6.1
  refine ⟨80, rf29_62 F6, ok80 F6, v80 (ln80 F6), fun M9 e9 => ?_⟩
  obtain ⟨s9, g9⟩ := s6.w (c := 80) (k := 700 * m + S.1) (v := so) (S1 := 0) (by decide) (by decide) (by omega)
  rw [← e9] at s9 g9
  have F9 := s9.1
  refine ⟨81, rf29_63 F9, ok81 F9, v80 (ln81 F9), fun M12 e12 => ?_⟩
  obtain ⟨s12, g12⟩ := s9.w (c := 81) (k := 700 * m + S.1) (v := pt) (S1 := 0) (by decide) (by decide) (by omega)
  rw [← e12] at s12 g12
  have F12 := s12.1
  refine ⟨82, rf29_64 F12, ok82 F12, v80 (ln82 F12), fun M15 e15 => ?_⟩
  obtain ⟨s15, g15⟩ := s12.w (c := 82) (k := 700 * m + S.1) (v := -1) (S1 := 0) (by decide) (by decide) (by omega)
  rw [← e15] at s15 g15
  have F15 := s15.1
  refine ⟨83, rf29_65 F15, ok83 F15, v80 (ln83 F15), fun M18 e18 => ?_⟩
  obtain ⟨s18, g18⟩ := s15.w (c := 83) (k := 700 * m + S.1) (v := -1) (S1 := 0) (by decide) (by decide) (by omega)
  rw [← e18] at s18 g18
  have F18 := s18.1
  refine ⟨84, rf29_66 F18, ok84 F18, v80 (ln84 F18), fun M21 e21 => ?_⟩
  obtain ⟨s21, g21⟩ := s18.w (c := 84) (k := 700 * m + S.1) (v := -1) (S1 := 0) (by decide) (by decide) (by omega)
  rw [← e21] at s21 g21
  have F21 := s21.1
  refine ⟨85, rf29_67 F21, ok85 F21, v80 (ln85 F21), fun M24 e24 => ?_⟩
  obtain ⟨s24, g24⟩ := s21.w (c := 85) (k := 700 * m + S.1) (v := -1) (S1 := 0) (by decide) (by decide) (by omega)
  rw [← e24] at s24 g24
  have F24 := s24.1
  refine ⟨86, rf29_68 F24, ok86 F24, v80 (ln86 F24), fun M27 e27 => ?_⟩
  obtain ⟨s27, g27⟩ := s24.w (c := 86) (k := 700 * m + S.1) (v := -1) (S1 := 0) (by decide) (by decide) (by omega)
  rw [← e27] at s27 g27
  have F27 := s27.1
  refine ⟨87, rf29_69 F27, ok87 F27, v80 (ln87 F27), fun M30 e30 => ?_⟩
  obtain ⟨s30, g30⟩ := s27.w (c := 87) (k := 700 * m + S.1) (v := 0) (S1 := 0) (by decide) (by decide) (by omega)
  rw [← e30] at s30 g30
  have F30 := s30.1
  refine ⟨88, rf29_70 F30, ok88 F30, v80 (ln88 F30), fun M33 e33 => ?_⟩
  obtain ⟨s33, g33⟩ := s30.w (c := 88) (k := 700 * m + S.1) (v := 0) (S1 := 0) (by decide) (by decide) (by omega)
  rw [← e33] at s33 g33
  have F33 := s33.1
  refine ⟨89, rf29_71 F33, ok89 F33, v80 (ln89 F33), fun M36 e36 => ?_⟩
  obtain ⟨s36, g36⟩ := s33.w (c := 89) (k := 700 * m + S.1) (v := 0) (S1 := 0) (by decide) (by decide) (by omega)
  rw [← e36] at s36 g36
  exact H M36 s36 (((((((((((g6.tr g9).tr g12).tr g15).tr g18).tr g21).tr g24).tr g27).tr g30).tr g33).tr g36))
theorem B_adopt (hB : BuM m A pn S M) (hp : 700 * m ≤ p ∧ p < 2800) (hc : 700 * m ≤ c ∧ c < 2800) (hl : S.2 82 p ≠ -1 → ∃ l, (700 * m ≤ l ∧ l < 2800) ∧ S.2 83 p = Int32.ofNat l) (H : ∀ M', BuM m A pn (S.1, aBf p c S.2) M' → RGb m M M' → Q none M') : E (h + 1) mdX11_adopt [.ref 29, .int (Int32.ofNat p), .int (Int32.ofNat c)] M Q := by
  obtain ⟨F, b1, b2, b3, b4, -⟩ := id hB
  have lp : (Int32.ofNat p).toNatClampNeg = p := lt32 (by omega)
  have lc : (Int32.ofNat c).toNatClampNeg = c := lt32 (by omega)
  have vv : ∀ {k x : Nat}, x < 2800 → k = 2800 → vp_in (Int32.ofNat x) k := fun hx e => by rw [e]; exact vp_of hx (by decide)
  have fin : ∀ (M1 : Mem) (B1 : Nat → Nat → Int32), BuM m A pn (S.1, B1) M1 → RGb m M M1 → aBf p c S.2 = up2 (up2 B1 83 p (Int32.ofNat c)) 86 c (Int32.ofNat p) → DX11_adopt_44 h 29 (Int32.ofNat p) (Int32.ofNat c) M1 Q := by
    intro M1 B1 s1 g1 e
    have F1 := s1.1
    unfold DX11_adopt_44
    rw [lp, lc]
    refine ⟨ok29 F1, 83, rf29_65 F1, ok83 F1, vv hp.2 (ln83 F1), fun M4 e4 => ?_⟩
    obtain ⟨s4, g4⟩ := s1.w (c := 83) (k := p) (v := Int32.ofNat c) (S1 := 0) (by decide) (by decide) hp.1
    rw [← e4] at s4 g4
    have F4 := s4.1
    refine ⟨86, rf29_68 F4, ok86 F4, vv hc.2 (ln86 F4), fun M7 e7 => ?_⟩
    obtain ⟨s7, g7⟩ := s4.w (c := 86) (k := c) (v := Int32.ofNat p) (S1 := 0) (by decide) (by decide) hc.1
    rw [← e7] at s7 g7
    have s7 : BuM m A pn (S.1, up2 (up2 B1 83 p (Int32.ofNat c)) 86 c (Int32.ofNat p)) M7 := s7
    rw [← e] at s7
    exact H M7 s7 ((g1.tr g4).tr g7)
  refine KX11_adopt ?_
  unfold DX11_adopt_0
  rw [lp, lc]
  refine ⟨ok29 F, 82, rf29_64 F, ok82 F, vv hp.2 (ln82 F), fun q => ?_, fun q => ?_⟩
  · rw [b4 82 (by decide) (by decide)] at q
    obtain ⟨l, hl1, hl2⟩ := hl q
    have ll : (Int32.ofNat l).toNatClampNeg = l := lt32 (by omega)
    have e83 : mAI M 83 p = Int32.ofNat l := by rw [b4 83 (by decide) (by decide)]; exact hl2
    refine ⟨84, rf29_66 F, 83, rf29_65 F, ok83 F, vv hp.2 (ln83 F), ok84 F, by rw [e83]; exact vv hl1.2 (ln84 F), fun M8 e8 => ?_⟩
    rw [e83, ll] at e8
    obtain ⟨s8, g8⟩ := hB.w (c := 84) (k := l) (v := Int32.ofNat c) (S1 := 0) (by decide) (by decide) hl1.1
    rw [← e8] at s8 g8
    have F8 := s8.1
    have e838 : mAI M8 83 p = Int32.ofNat l := by
      rw [s8.2.2.2.2.1 83 (by decide) (by decide)]
      show up2 S.2 84 l (Int32.ofNat c) 83 p = _
      rw [up2_ne (fun z => absurd z.1 (by decide))]; exact hl2
    refine ⟨85, rf29_67 F8, 83, rf29_65 F8, ok83 F8, vv hp.2 (ln83 F8), ok85 F8, vv hc.2 (ln85 F8), fun M13 e13 => ?_⟩
    rw [e838] at e13
    obtain ⟨s13, g13⟩ := s8.w (c := 85) (k := c) (v := Int32.ofNat l) (S1 := 0) (by decide) (by decide) hc.1
    rw [← e13] at s13 g13
    refine fin M13 (up2 (up2 S.2 84 l (Int32.ofNat c)) 85 c (Int32.ofNat l)) s13 (g8.tr g13) ?_
    unfold aBf
    rw [if_neg q, hl2, ll]
  · rw [b4 82 (by decide) (by decide)] at q
    refine ⟨82, rf29_64 F, ok82 F, vv hp.2 (ln82 F), fun M16 e16 => ?_⟩
    obtain ⟨s16, g16⟩ := hB.w (c := 82) (k := p) (v := Int32.ofNat c) (S1 := 0) (by decide) (by decide) hp.1
    rw [← e16] at s16 g16
    refine fin M16 (up2 S.2 82 p (Int32.ofNat c)) s16 g16 ?_
    unfold aBf
    rw [if_pos q]
end
