/-! the reference's search: what it keeps of a module, moves, stateOf, move1 -/
/-- what a MOVE leads to: a STATE or none -/
def LdO (M : Mem) : Prop := ∀ j, mAI M 129 j < 0 ∨ ∃ c, c < 48 ∧ mAI M 129 j = Int32.ofNat c
/-- n STATES of module m, each but the first come to from an earlier one -/
def SrI (M : Mem) (m n : Nat) : Prop := mAI M 123 m = Int32.ofNat n ∧ (1 ≤ n ∧ n ≤ 48) ∧ mAI M 126 (48 * m) = -1 ∧ ∀ s, 1 ≤ s → s < n → ∃ c, c < s ∧ mAI M 126 (48 * m + s) = Int32.ofNat c
/-- how many MOVES a module has: 2 to the t -/
def FrE (M : Mem) (m t : Nat) : Prop := ∃ i f, mAI M 35 m = Int32.ofNat i ∧ mAI M 56 m = Int32.ofNat f ∧ i + f = t
/-- places of module m in the rows of searches -/
def skA (m c j : Nat) : Prop := ((c = 122 ∨ c = 123) ∧ j = m) ∨ ((124 ≤ c ∧ c ≤ 128) ∧ 48 * m ≤ j ∧ j < 48 * m + 48) ∨ ((c = 129 ∨ c = 130) ∧ 1536 * m ≤ j ∧ j < 1536 * m + 1536)
/-- what a search of module m writes -/
def SkF (m : Nat) (M M' : Mem) : Prop := RfF (fun f => 83 ≤ f ∧ f ≤ 89) (fun c => (95 ≤ c ∧ c ≤ 101) ∨ (122 ≤ c ∧ c ≤ 131)) noP M M' ∧ ∀ c j, 122 ≤ c → c ≤ 130 → ¬ skA m c j → mAI M' c j = mAI M c j
section
variable {M M1 M' : Mem} {m n s t h : Nat} {Q : Option Value → Mem → Prop}
theorem aiN {a k c : Nat} {v : Int32} (e : M' = wAI M a k v) (h : c ≠ a) : mAI M' c = mAI M c := by rw [e]; exact up2_row h
theorem ix32 {q v : Nat} : 32 * Int32.ofNat q + Int32.ofNat v = Int32.ofNat (32 * q + v) := by rw [Int32.ofNat_add, Int32.ofNat_mul]; rfl
theorem ix48 {q v : Nat} : 48 * Int32.ofNat q + Int32.ofNat v = Int32.ofNat (48 * q + v) := by rw [Int32.ofNat_add, Int32.ofNat_mul]; rfl
theorem SkF.rf : SkF m M M := ⟨RfF.rf, fun _ _ _ _ _ => rfl⟩
theorem SkF.tr (a : SkF m M M1) (b : SkF m M1 M') : SkF m M M' := ⟨a.1.tr b.1, fun c j h1 h2 h3 => (b.2 c j h1 h2 h3).trans (a.2 c j h1 h2 h3)⟩
theorem SkF.i {f : Nat} {v : Int32} (hf : 83 ≤ f ∧ f ≤ 89) (e : M' = wI M 29 f v) : SkF m M M' := ⟨RfF.i hf e, fun c j _ _ _ => by rw [e]; rfl⟩
theorem SkF.ai {c k : Nat} {v : Int32} (hc : skA m c k) (e : M' = wAI M c k v) : SkF m M M' := by
  refine ⟨RfF.ai (Or.inr (by unfold skA at hc; omega)) e, fun d j _ _ hn => ?_⟩
  rw [e, mAI_wAI, if_neg (fun z => hn (by rw [z.1, z.2]; exact hc))]
theorem SkF.ai9 {k : Nat} {v : Int32} (e : M' = wAI M 131 k v) : SkF m M M' := by
  refine ⟨RfF.ai (Or.inr (by omega)) e, fun d j _ hd _ => ?_⟩
  rw [e, mAI_wAI, if_neg (fun z => by have := z.1; omega)]
theorem SkF.rb (k : RbF M M') : SkF m M M' := ⟨⟨k.1, ⟨k.2.1.1, k.2.1.2.1, k.2.1.2.2.2⟩, k.2.2.1, fun f z => k.2.2.2.1 f (fun y => z (by omega)), fun c z => k.2.2.2.2 c (fun y => z (Or.inl y)), fun c _ => by rw [k.2.1.2.2.1]⟩, fun c j h1 _ _ => by rw [k.2.2.2.2 c (fun y => by omega)]⟩
theorem SkF.fix (k : SkF m M M') (F : Fix M) : Fix M' := k.1.fix F (fun z => z)
theorem SkF.row (k : SkF m M M') {c : Nat} (hc : c < 95 ∨ (102 ≤ c ∧ c < 122)) : mAI M' c = mAI M c := k.1.2.2.2.2.1 c (fun z => by omega)
theorem RbM.sk {R : RMo} {sl il : List Nat} {X : List Nd} {np : Nat} (hB : RbM R sl il X np M) (k : SkF m M M') : RbM R sl il X np M' := hB.br k.1 (fun c z => by omega) (fun c z => z.elim)
theorem FrE.sk (hf : FrE M m t) {m' : Nat} (k : SkF m' M M') : FrE M' m t := by
  unfold FrE
  rw [k.row (Or.inl (by decide)), k.row (Or.inl (by decide))]
  exact hf
theorem pw_32 {i f : Nat} (h : i + f ≤ 5) : (1 : Int32) <<< ((Int32.ofNat i + Int32.ofNat f) &&& 31) = Int32.ofNat (2 ^ (i + f)) := by
  rw [add32]
  generalize i + f = t at h
  have : ∀ t : Fin 6, (1 : Int32) <<< (Int32.ofNat t.val &&& 31) = Int32.ofNat (2 ^ t.val) := by decide
  exact this ⟨t, by omega⟩
theorem pw_le {t : Nat} (h : t ≤ 5) : 1 ≤ 2 ^ t ∧ 2 ^ t ≤ 32 := ⟨Nat.one_le_two_pow, Nat.le_trans (Nat.pow_le_pow_right (by decide) h) (by decide)⟩
theorem R_moves (F : Fix M) (h4 : m < 4) (hf : FrE M m t) (h5 : t ≤ 5) (K : Q (some (.int (Int32.ofNat (2 ^ t)))) M) : E (h + 1) mdX11_moves [.ref 29, .int (Int32.ofNat m)] M Q := by
  obtain ⟨i, f, e1, e2, e3⟩ := hf
  have lm : (Int32.ofNat m).toNatClampNeg = m := lt32 (by omega)
  refine KX11_moves ?_
  unfold DX11_moves_0
  refine ⟨ok29 F, 35, rf29_9 F, ok35 F, by rw [ln35 F]; exact vp_of (by omega) (by decide), 56, rf29_36 F, ok56 F, by rw [ln56 F]; exact vp_of (by omega) (by decide), ?_⟩
  rw [lm, e1, e2, pw_32 (by omega), e3]
  exact K
theorem R_stO {p b : Int32} (F : Fix M) (h4 : m < 4) (e : mAI M 123 m = Int32.ofNat n) (hn : n ≤ 48) (K : ∀ s, 1 ≤ s → s < n → mAI M 124 (48 * m + s) = p → mAI M 125 (48 * m + s) = b → (∀ q, 1 ≤ q → q < s → ¬ (mAI M 124 (48 * m + q) = p ∧ mAI M 125 (48 * m + q) = b)) → Q (some (.int (Int32.ofNat s))) M) (K0 : (∀ q, 1 ≤ q → q < n → ¬ (mAI M 124 (48 * m + q) = p ∧ mAI M 125 (48 * m + q) = b)) → Q (some (.int (-1))) M) : E (h + 1) mdX11_stateOf [.ref 29, .int (Int32.ofNat m), .int p, .int b] M Q := by
  have lm : (Int32.ofNat m).toNatClampNeg = m := lt32 (by omega)
  have main : ∀ d s, s + d = 48 → 1 ≤ s → (∀ q, 1 ≤ q → q < s → ¬ (mAI M 124 (48 * m + q) = p ∧ mAI M 125 (48 * m + q) = b)) → T (h + 1) mdX11_stateOf 3 [(0, .ref 29), (1, .int (Int32.ofNat m)), (2, .int p), (3, .int b), (4, .int (Int32.ofNat s))] [] M Q := by
    intro d
    induction d with
    | zero =>
      intro s hs h1 hq
      refine VX11_stateOf_3 ?_
      unfold DX11_stateOf_3
      refine ⟨ok29 F, 123, rf29_115 F, ok123 F, by rw [ln123 F]; exact vp_of (by omega) (by decide), ?_⟩
      rw [lm, e]
      exact ⟨fun _ => K0 (fun q q1 q2 => hq q q1 (by omega)), fun z => absurd ((le32 (by omega) (by omega)).mpr (by omega)) z⟩
    | succ d ih =>
      intro s hs h1 hq
      have e48 : 48 * Int32.ofNat m + Int32.ofNat s = Int32.ofNat (48 * m + s) := by rw [Int32.ofNat_add, Int32.ofNat_mul]; rfl
      have l48 : (Int32.ofNat (48 * m + s)).toNatClampNeg = 48 * m + s := lt32 (by omega)
      have v48 : ∀ {k : Nat}, k = 192 → vp_in (Int32.ofNat (48 * m + s)) k := fun e => by rw [e]; exact vp_of (by omega) (by decide)
      refine VX11_stateOf_3 ?_
      unfold DX11_stateOf_3 DX11_stateOf_49
      refine ⟨ok29 F, 123, rf29_115 F, ok123 F, by rw [ln123 F]; exact vp_of (by omega) (by decide), ?_⟩
      rw [lm, e, e48, l48, succ32]
      refine ⟨fun z => K0 (fun q q1 q2 => hq q q1 (by have := (le32 (by omega) (by omega)).mp z; omega)), fun z => ⟨124, rf29_116 F, ok124 F, v48 (ln124 F), ?_⟩⟩
      have sn : s < n := by
        rcases Nat.lt_or_ge s n with y | y
        · exact y
        · exact absurd ((le32 (by omega) (by omega)).mpr y) z
      have nx : ¬ (mAI M 124 (48 * m + s) = p ∧ mAI M 125 (48 * m + s) = b) → ∀ q, 1 ≤ q → q < s + 1 → ¬ (mAI M 124 (48 * m + q) = p ∧ mAI M 125 (48 * m + q) = b) := fun y q q1 q2 => by
        by_cases qs : q = s
        · rw [qs]; exact y
        · exact hq q q1 (by omega)
      refine ⟨fun y => ih (s + 1) (by omega) (by omega) (nx (fun w => y w.1)), fun y => ⟨125, rf29_117 F, ok125 F, v48 (ln125 F), fun y2 => ih (s + 1) (by omega) (by omega) (nx (fun w => y2 w.2)), fun y2 => K s h1 sn y y2 hq⟩⟩
  refine KX11_stateOf ?_
  unfold DX11_stateOf_0
  exact main 47 1 (by omega) (by omega) (fun q q1 q2 => by omega)
/-- a value that a MOVE may lead to -/
theorem LdO.ai {k : Nat} {v : Int32} (h : LdO M) (hv : v < 0 ∨ ∃ c, c < 48 ∧ v = Int32.ofNat c) (e : M' = wAI M 129 k v) : LdO M' := by
  intro j
  rw [e, mAI_wAI]
  by_cases z : j = k
  · rw [if_pos ⟨rfl, z⟩]; exact hv
  · rw [if_neg (fun y => z y.2)]; exact h j
theorem LdO.k (h : LdO M) (e : mAI M' 129 = mAI M 129) : LdO M' := fun j => by rw [e]; exact h j
theorem SrI.k (h : SrI M m n) (e1 : mAI M' 123 = mAI M 123) (e2 : mAI M' 126 = mAI M 126) : SrI M' m n := by
  unfold SrI
  rw [e1, e2]
  exact h
theorem SrI.nw {M2 M3 : Mem} {v : Int32} (h : SrI M m n) (hn : n < 48) (hs : s < n) (e1 : mAI M1 = up2 (mAI M) 123 m (Int32.ofNat (n + 1))) (e2 : mAI M2 126 = mAI M1 126 ∧ mAI M2 123 = mAI M1 123) (e3 : M3 = wAI M2 126 (48 * m + n) (Int32.ofNat s)) : SrI M3 m (n + 1) := by
  obtain ⟨a1, ⟨a2, a3⟩, a4, a5⟩ := h
  have r3 : mAI M3 123 = mAI M2 123 := aiN e3 (by decide)
  have r1 : mAI M1 126 = mAI M 126 := by rw [e1]; exact up2_row (a := 123) (show (126 : Nat) ≠ 123 by decide)
  refine ⟨by rw [r3, e2.2, e1]; exact if_pos ⟨rfl, rfl⟩, ⟨by omega, by omega⟩, ?_, fun q q1 q2 => ?_⟩
  · rw [e3, mAI_wAI, if_neg (fun z => by have := z.2; omega), e2.1, r1]; exact a4
  · rw [e3, mAI_wAI]
    by_cases z : q = n
    · rw [if_pos ⟨rfl, by omega⟩]; exact ⟨s, by omega, rfl⟩
    · rw [if_neg (fun y => by have := y.2; omega), e2.1, r1]; exact a5 q q1 (by omega)
end
