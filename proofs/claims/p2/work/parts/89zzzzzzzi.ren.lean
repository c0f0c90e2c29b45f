/-! the reference enters a node -/
def upP (ρ : Plc → Nat) (i : Plc) (a : Nat) : Plc → Nat := fun j => if j = i then a else ρ j
def plX (R : RMo) (i : Plc) : Nat := if i.1 ≤ 3 then i.2.1 - 700 * moM R else if i.1 = 4 then 24 * (i.2.1 - 700 * moM R) + i.2.2 else i.2.1
/-- one step of solving: what is known grows, and where it has grown the mark is set -/
def SvS (R : RMo) (ρ : Plc → Nat) (M : Mem) (ρ' : Plc → Nat) (M' : Mem) : Prop := RbF M M' ∧ RSv R ρ' M' ∧ Lq ρ ρ' ∧ ((mI M' 29 83 = mI M 29 83 ∧ ρ' = ρ) ∨ (mI M' 29 83 = 1 ∧ ∃ i, plR R i ∧ ρ i ≠ ρ' i))
section
variable {R : RMo} {I : RIn} {sl : List Nat} {ρ ρ1 ρ2 : Plc → Nat} {M M1 M2 M' : Mem} {h y : Nat} {Q : Option Value → Mem → Prop}
theorem SvS.rf (hV : RSv R ρ M) : SvS R ρ M ρ M := ⟨RbF.rf, hV, Lq.rf, Or.inl ⟨rfl, rfl⟩⟩
theorem SvS.ar (hV : RSv R ρ M) (k : ArF (fun c => c = 101) M M') : SvS R ρ M ρ M' := ⟨k.rb (fun c z => by omega), hV.rm (fun c c1 c2 => k.2.2 c (by omega)), Lq.rf, Or.inl ⟨by rw [k.2.1.1], rfl⟩⟩
theorem SvS.tr (h : SvS R ρ M ρ1 M1) (k : SvS R ρ1 M1 ρ2 M2) : SvS R ρ M ρ2 M2 := by
  obtain ⟨h1, h2, h3, h4⟩ := h
  obtain ⟨k1, k2, k3, k4⟩ := k
  refine ⟨h1.tr k1, k2, h3.tr k3, ?_⟩
  rcases k4 with ⟨a, b⟩ | ⟨a, i, i1, i2⟩
  · rw [b]
    rcases h4 with ⟨c, d⟩ | ⟨c, j⟩
    · exact Or.inl ⟨a.trans c, d⟩
    · exact Or.inr ⟨a.trans c, j⟩
  · refine Or.inr ⟨a, i, i1, fun e => i2 ?_⟩
    have q1 := h3 i
    have q2 := k3 i
    rw [← e] at q2 ⊢
    exact q2.an q1
theorem RSv.at (hV : RSv R ρ M) {i : Plc} (hi : plR R i) : mAI M (95 + i.1) (plX R i) = Int32.ofNat (ρ i) := by
  obtain ⟨c, z, n⟩ := i
  rcases hi with ⟨c3, iz, n0⟩ | ⟨c4, iz, nk⟩ | ⟨c5, zs, n0⟩
  · have c3 : c ≤ 3 := c3
    have n0 : n = 0 := n0
    subst n0
    show mAI M (95 + c) (if c ≤ 3 then z - 700 * moM R else _) = _
    rw [if_pos c3]
    exact hV.2.2.1 c z c3 iz
  · have c4 : c = 4 := c4
    subst c4
    exact hV.2.2.2.1 z n iz nk
  · have c5 : c = 5 := c5
    have n0 : n = 0 := n0
    subst c5 n0
    exact hV.2.2.2.2 z zs
theorem plX_inj {i j : Plc} (h20 : moC R ≤ 20) (hi : plR R i) (hj : plR R j) (e1 : 95 + i.1 = 95 + j.1) (e2 : plX R i = plX R j) : i = j := by
  obtain ⟨c, z, n⟩ := i
  obtain ⟨c', z', n'⟩ := j
  have e1 : c = c' := by have : 95 + c = 95 + c' := e1; omega
  subst e1
  unfold plX at e2
  have e2 : (if c ≤ 3 then z - 700 * moM R else if c = 4 then 24 * (z - 700 * moM R) + n else z) = (if c ≤ 3 then z' - 700 * moM R else if c = 4 then 24 * (z' - 700 * moM R) + n' else z') := e2
  rcases hi with ⟨c3, iz, n0⟩ | ⟨c4, iz, nk⟩ | ⟨c5, zs, n0⟩
  · have c3 : c ≤ 3 := c3
    rcases hj with ⟨-, iz', n0'⟩ | ⟨c4', -⟩ | ⟨c5', -⟩
    · rw [if_pos c3, if_pos c3] at e2
      have i1 : 700 * moM R ≤ z := iz.1
      have i2 : 700 * moM R ≤ z' := iz'.1
      have n0 : n = 0 := n0
      have n0' : n' = 0 := n0'
      rw [show z = z' by omega, n0, n0']
    · have c4' : c = 4 := c4'; omega
    · have c5' : c = 5 := c5'; omega
  · have c4 : c = 4 := c4
    rcases hj with ⟨c3', -⟩ | ⟨-, iz', nk'⟩ | ⟨c5', -⟩
    · have c3' : c ≤ 3 := c3'; omega
    · rw [if_neg (show ¬ c ≤ 3 by omega), if_neg (show ¬ c ≤ 3 by omega), if_pos c4, if_pos c4] at e2
      have i1 : 700 * moM R ≤ z := iz.1
      have i2 : 700 * moM R ≤ z' := iz'.1
      have nk : n < moC R := nk
      have nk' : n' < moC R := nk'
      rw [show z = z' by omega, show n = n' by omega]
    · have c5' : c = 5 := c5'; omega
  · have c5 : c = 5 := c5
    rcases hj with ⟨c3', -⟩ | ⟨c4', -⟩ | ⟨-, -, n0'⟩
    · have c3' : c ≤ 3 := c3'; omega
    · have c4' : c = 4 := c4'; omega
    · rw [if_neg (show ¬ c ≤ 3 by omega), if_neg (show ¬ c ≤ 3 by omega), if_neg (show ¬ c = 4 by omega), if_neg (show ¬ c = 4 by omega)] at e2
      have n0 : n = 0 := n0
      have n0' : n' = 0 := n0'
      rw [e2, n0, n0']
theorem RSv.up {i : Plc} {a : Nat} (h20 : moC R ≤ 20) (hV : RSv R ρ M) (hi : plR R i) (ha : a ≤ 2) (e : M1 = wAI M (95 + i.1) (plX R i) (Int32.ofNat a)) : RSv R (upP ρ i a) M1 := by
  have gen : ∀ j, plR R j → mAI M1 (95 + j.1) (plX R j) = Int32.ofNat (upP ρ i a j) := fun j hj => by
    unfold upP
    rw [e, mAI_wAI]
    by_cases z : j = i
    · rw [z, if_pos ⟨rfl, rfl⟩, if_pos rfl]
    · rw [if_neg (fun q => z (plX_inj h20 hj hi q.1 q.2)), if_neg z]
      exact hV.at hj
  refine ⟨fun j => ?_, fun j hj => ?_, fun c z c3 iz => ?_, fun z n iz nk => ?_, fun s hs => ?_⟩
  · unfold upP
    by_cases z : j = i
    · rw [if_pos z]; exact ha
    · rw [if_neg z]; exact hV.1 j
  · unfold upP
    rw [if_neg (fun z => hj (by rw [z]; exact hi))]
    exact hV.2.1 j hj
  · have q := gen (c, z, 0) (Or.inl ⟨c3, iz, rfl⟩)
    have e2 : plX R (c, z, 0) = z - 700 * moM R := by
      show (if c ≤ 3 then z - 700 * moM R else _) = _
      rw [if_pos c3]
    rw [e2] at q
    exact q
  · exact gen (4, z, n) (Or.inr (Or.inl ⟨rfl, iz, nk⟩))
  · exact gen (5, s, 0) (Or.inr (Or.inr ⟨rfl, hs, rfl⟩))
theorem plX_b {i : Plc} (hS : RmS R sl M) (hi : plR R i) : (i.1 ≤ 5 ∧ plX R i < 16800) ∧ (i.1 ≤ 3 → plX R i < 700) ∧ (i.1 = 5 → plX R i < 16) := by
  obtain ⟨⟨h4, hG, q16, c3, c20, -⟩, -⟩ := hS
  have s7 := hG.1.2
  obtain ⟨c, z, n⟩ := i
  unfold plX
  show (c ≤ 5 ∧ (if c ≤ 3 then z - 700 * moM R else if c = 4 then 24 * (z - 700 * moM R) + n else z) < 16800) ∧ (c ≤ 3 → (if c ≤ 3 then z - 700 * moM R else if c = 4 then 24 * (z - 700 * moM R) + n else z) < 700) ∧ (c = 5 → (if c ≤ 3 then z - 700 * moM R else if c = 4 then 24 * (z - 700 * moM R) + n else z) < 16)
  rcases hi with ⟨c3, ⟨i1, i2⟩, -⟩ | ⟨c4, ⟨i1, i2⟩, nk⟩ | ⟨c5, zs, -⟩
  · have c3 : c ≤ 3 := c3
    have i2 : z < 700 * moM R + (moS R).1 := i2
    rw [if_pos c3]
    omega
  · have c4 : c = 4 := c4
    have i2 : z < 700 * moM R + (moS R).1 := i2
    have nk : n < moC R := nk
    rw [if_neg (show ¬ c ≤ 3 by omega), if_pos c4]
    omega
  · have c5 : c = 5 := c5
    have zs : z < moQ R := zs
    rw [if_neg (show ¬ c ≤ 3 by omega), if_neg (show ¬ c = 4 by omega)]
    omega
theorem R_known {i : Plc} {a : Nat} (hS : RmS R sl M) (F : Fix M) (hV : RSv R ρ M) (hi : plR R i) (ha : a ≤ 2) (hl : lq3 (ρ i) a) (K : ∀ M', SvS R ρ M (upP ρ i a) M' → Q none M') : E (h + 1) mdX11_known [.ref 29, .ref (95 + i.1), .int (Int32.ofNat (plX R i)), .int (Int32.ofNat a)] M Q := by
  obtain ⟨⟨b1, b2⟩, b3, b4⟩ := plX_b hS hi
  have h20 := hS.1.2.2.2.2.1
  have okc : ok M (95 + i.1) 21 ∧ vp_in (Int32.ofNat (plX R i)) (mL M (95 + i.1)) := by
    have : i.1 = 0 ∨ i.1 = 1 ∨ i.1 = 2 ∨ i.1 = 3 ∨ i.1 = 4 ∨ i.1 = 5 := by omega
    rcases this with e | e | e | e | e | e
    · rw [e]; exact ⟨ok95 F, by rw [ln95 F]; exact vp_of (b3 (by omega)) (by decide)⟩
    · rw [e]; exact ⟨ok96 F, by rw [ln96 F]; exact vp_of (b3 (by omega)) (by decide)⟩
    · rw [e]; exact ⟨ok97 F, by rw [ln97 F]; exact vp_of (b3 (by omega)) (by decide)⟩
    · rw [e]; exact ⟨ok98 F, by rw [ln98 F]; exact vp_of (b3 (by omega)) (by decide)⟩
    · rw [e]; exact ⟨ok99 F, by rw [ln99 F]; exact vp_of b2 (by decide)⟩
    · rw [e]; exact ⟨ok100 F, by rw [ln100 F]; exact vp_of (b4 e) (by decide)⟩
  have up_same : ρ i = a → upP ρ i a = ρ := fun e => by
    funext j
    unfold upP
    by_cases z : j = i
    · rw [if_pos z, z]; exact e.symm
    · rw [if_neg z]
  refine KX11_known ?_
  unfold DX11_known_0 DX11_known_16
  rw [lt32 (show plX R i < 2147483648 by omega), hV.at hi]
  refine ⟨okc.1, okc.2, fun z => ?_, fun z => ⟨okc.2, fun M2 e2 => ⟨?_, Or.inr rfl, fun M4 e4 => ?_⟩⟩⟩
  · have e : ρ i = a := inj32 (by have := hV.1 i; omega) (by omega) z
    refine K M ?_
    rw [up_same e]
    exact SvS.rf hV
  · rw [e2]; exact ok29 F
  · have ne : ρ i ≠ a := fun e => z (by rw [e])
    have V2 := hV.up h20 hi ha e2
    have k2 : RbF M M2 := RbF.up (by omega) e2
    have k4 : RbF M2 M4 := RbF.wi e4
    refine K M4 ⟨k2.tr k4, V2.rm (fun c _ _ => by rw [e4]; rfl), fun j => ?_, Or.inr ⟨by rw [e4]; exact mI_own _ _ _ _, i, hi, ?_⟩⟩
    · unfold upP
      by_cases z : j = i
      · rw [if_pos z, z]; exact hl
      · rw [if_neg z]; exact lq3.rf
    · unfold upP
      rw [if_pos rfl]
      exact ne
end
