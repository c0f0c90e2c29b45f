section
/-! the reference enters a node -/
def upP (ρ : Plc → Nat) (i : Plc) (a : Nat) : Plc → Nat := fun j => if j = i then a else ρ j
def plX (R : RMo) (i : Plc) : Nat := if i.1 ≤ 3 then i.2.1 - 700 * moM R else if i.1 = 4 then 24 * (i.2.1 - 700 * moM R) + i.2.2 else i.2.1
/-- one step of solving: what is known grows, and where it has grown the mark is set -/
def SvS (R : RMo) (ρ : Plc → Nat) (M : Mem) (ρ' : Plc → Nat) (M' : Mem) : Prop := RbF M M' ∧ RSv R ρ' M' ∧ Lq ρ ρ' ∧ ((mI M' 29 83 = mI M 29 83 ∧ ρ' = ρ) ∨ (mI M' 29 83 = 1 ∧ ∃ i, plR R i ∧ ρ i ≠ ρ' i))
section
variable {R : RMo} {I : RIn} {sl : List Nat} {ρ ρ1 ρ2 : Plc → Nat} {M M1 M2 M' : Mem} {h y : Nat} {Q : Option Value → Mem → Prop}
theorem SvS.rf (hV : RSv R ρ M) : SvS R ρ M ρ M := ⟨RbF.rf, hV, Lq.rf, Or.inl ⟨rfl, rfl⟩⟩
theorem SvS.ar (hV : RSv R ρ M) (k : ArF (fun c => c = 101) M M') : SvS R ρ M ρ M' := ⟨k.rb (fun c z => by omega), hV.rm (fun c c1 c2 => k.2.2 c (by omega)), Lq.rf, Or.inl ⟨by rw [k.2.1.1], rfl⟩⟩
theorem SvS.tr (h : SvS R ρ M ρ1 M1) (k : SvS R ρ1 M1 ρ2 M2) : SvS R ρ M ρ2 M2 := by
  obtain ⟨h1, h2, h3, h4⟩ := h
  obtain ⟨k1, k2, k3, k4⟩ := k
  refine ⟨h1.tr k1, k2, h3.tr k3, ?_⟩
  rcases k4 with ⟨a, b⟩ | ⟨a, i, i1, i2⟩
  · rw [b]
    rcases h4 with ⟨c, d⟩ | ⟨c, j⟩
    · exact Or.inl ⟨a.trans c, d⟩
    · exact Or.inr ⟨a.trans c, j⟩
  · refine Or.inr ⟨a, i, i1, fun e => i2 ?_⟩
    have q1 := h3 i
    have q2 := k3 i
    rw [← e] at q2 ⊢
    exact q2.an q1
theorem RSv.at (hV : RSv R ρ M) {i : Plc} (hi : plR R i) : mAI M (95 + i.1) (plX R i) = Int32.ofNat (ρ i) := by
  obtain ⟨c, z, n⟩ := i
  rcases hi with ⟨c3, iz, n0⟩ | ⟨c4, iz, nk⟩ | ⟨c5, zs, n0⟩
  · have c3 : c ≤ 3 := c3
    have n0 : n = 0 := n0
    subst n0
    show mAI M (95 + c) (if c ≤ 3 then z - 700 * moM R else _) = _
    rw [if_pos c3]
    exact hV.2.2.1 c z c3 iz
  · have c4 : c = 4 := c4
    subst c4
    exact hV.2.2.2.1 z n iz nk
  · have c5 : c = 5 := c5
    have n0 : n = 0 := n0
    subst c5 n0
    exact hV.2.2.2.2 z zs
theorem plX_inj {i j : Plc} (h20 : moC R ≤ 20) (hi : plR R i) (hj : plR R j) (e1 : 95 + i.1 = 95 + j.1) (e2 : plX R i = plX R j) : i = j := by
  obtain ⟨c, z, n⟩ := i
  obtain ⟨c', z', n'⟩ := j
  have e1 : c = c' := by have : 95 + c = 95 + c' := e1; omega
  subst e1
  unfold plX at e2
  have e2 : (if c ≤ 3 then z - 700 * moM R else if c = 4 then 24 * (z - 700 * moM R) + n else z) = (if c ≤ 3 then z' - 700 * moM R else if c = 4 then 24 * (z' - 700 * moM R) + n' else z') := e2
  rcases hi with ⟨c3, iz, n0⟩ | ⟨c4, iz, nk⟩ | ⟨c5, zs, n0⟩
  · have c3 : c ≤ 3 := c3
    rcases hj with ⟨-, iz', n0'⟩ | ⟨c4', -⟩ | ⟨c5', -⟩
    · rw [if_pos c3, if_pos c3] at e2
      have i1 : 700 * moM R ≤ z := iz.1
      have i2 : 700 * moM R ≤ z' := iz'.1
      have n0 : n = 0 := n0
      have n0' : n' = 0 := n0'
      rw [show z = z' by omega, n0, n0']
    · have c4' : c = 4 := c4'; omega
    · have c5' : c = 5 := c5'; omega
  · have c4 : c = 4 := c4
    rcases hj with ⟨c3', -⟩ | ⟨-, iz', nk'⟩ | ⟨c5', -⟩
    · have c3' : c ≤ 3 := c3'; omega
    · rw [if_neg (show ¬ c ≤ 3 by omega), if_neg (show ¬ c ≤ 3 by omega), if_pos c4, if_pos c4] at e2
      have i1 : 700 * moM R ≤ z := iz.1
      have i2 : 700 * moM R ≤ z' := iz'.1
      have nk : n < moC R := nk
      have nk' : n' < moC R := nk'
      rw [show z = z' by omega, show n = n' by omega]
    · have c5' : c = 5 := c5'; omega
  · have c5 : c = 5 := c5
    rcases hj with ⟨c3', -⟩ | ⟨c4', -⟩ | ⟨-, -, n0'⟩
    · have c3' : c ≤ 3 := c3'; omega
    · have c4' : c = 4 := c4'; omega
    · rw [if_neg (show ¬ c ≤ 3 by omega), if_neg (show ¬ c ≤ 3 by omega), if_neg (show ¬ c = 4 by omega), if_neg (show ¬ c = 4 by omega)] at e2
      have n0 : n = 0 := n0
      have n0' : n' = 0 := n0'
      rw [e2, n0, n0']
theorem RSv.up {i : Plc} {a : Nat} (h20 : moC R ≤ 20) (hV : RSv R ρ M) (hi : plR R i) (ha : a ≤ 2) (e : M1 = wAI M (95 + i.1) (plX R i) (Int32.ofNat a)) : RSv R (upP ρ i a) M1 := by
  have gen : ∀ j, plR R j → mAI M1 (95 + j.1) (plX R j) = Int32.ofNat (upP ρ i a j) := fun j hj => by
    unfold upP
    rw [e, mAI_wAI]
    by_cases z : j = i
    · rw [z, if_pos ⟨rfl, rfl⟩, if_pos rfl]
    · rw [if_neg (fun q => z (plX_inj h20 hj hi q.1 q.2)), if_neg z]
      exact hV.at hj
  refine ⟨fun j => ?_, fun j hj => ?_, fun c z c3 iz => ?_, fun z n iz nk => ?_, fun s hs => ?_⟩
  · unfold upP
    by_cases z : j = i
    · rw [if_pos z]; exact ha
    · rw [if_neg z]; exact hV.1 j
  · unfold upP
    rw [if_neg (fun z => hj (by rw [z]; exact hi))]
    exact hV.2.1 j hj
  · have q := gen (c, z, 0) (Or.inl ⟨c3, iz, rfl⟩)
    have e2 : plX R (c, z, 0) = z - 700 * moM R := by
      show (if c ≤ 3 then z - 700 * moM R else _) = _
      rw [if_pos c3]
    rw [e2] at q
    exact q
  · exact gen (4, z, n) (Or.inr (Or.inl ⟨rfl, iz, nk⟩))
  · exact gen (5, s, 0) (Or.inr (Or.inr ⟨rfl, hs, rfl⟩))
theorem plX_b {i : Plc} (hS : RmS R sl M) (hi : plR R i) : (i.1 ≤ 5 ∧ plX R i < 16800) ∧ (i.1 ≤ 3 → plX R i < 700) ∧ (i.1 = 5 → plX R i < 16) := by
  obtain ⟨⟨h4, hG, q16, c3, c20, -⟩, -⟩ := hS
  have s7 := hG.1.2
  obtain ⟨c, z, n⟩ := i
  unfold plX
  show (c ≤ 5 ∧ (if c ≤ 3 then z - 700 * moM R else if c = 4 then 24 * (z - 700 * moM R) + n else z) < 16800) ∧ (c ≤ 3 → (if c ≤ 3 then z - 700 * moM R else if c = 4 then 24 * (z - 700 * moM R) + n else z) < 700) ∧ (c = 5 → (if c ≤ 3 then z - 700 * moM R else if c = 4 then 24 * (z - 700 * moM R) + n else z) < 16)
  rcases hi with ⟨c3, ⟨i1, i2⟩, -⟩ | ⟨c4, ⟨i1, i2⟩, nk⟩ | ⟨c5, zs, -⟩
  · have c3 : c ≤ 3 := c3
    have i2 : z < 700 * moM R + (moS R).1 := i2
    rw [if_pos c3]
    omega
  · have c4 : c = 4 := c4
    have i2 : z < 700 * moM R + (moS R).1 := i2
    have nk : n < moC R := nk
    rw [if_neg (show ¬ c ≤ 3 by omega), if_pos c4]
    omega
  · have c5 : c = 5 := c5
    have zs : z < moQ R := zs
    rw [if_neg (show ¬ c ≤ 3 by omega), if_neg (show ¬ c = 4 by omega)]
    omega
theorem R_known {i : Plc} {a : Nat} (hS : RmS R sl M) (F : Fix M) (hV : RSv R ρ M) (hi : plR R i) (ha : a ≤ 2) (hl : lq3 (ρ i) a) (K : ∀ M', SvS R ρ M (upP ρ i a) M' → Q none M') : E (h + 1) mdX11_known [.ref 29, .ref (95 + i.1), .int (Int32.ofNat (plX R i)), .int (Int32.ofNat a)] M Q := by
  obtain ⟨⟨b1, b2⟩, b3, b4⟩ := plX_b hS hi
  have h20 := hS.1.2.2.2.2.1
  have okc : ok M (95 + i.1) 21 ∧ vp_in (Int32.ofNat (plX R i)) (mL M (95 + i.1)) := by
    have : i.1 = 0 ∨ i.1 = 1 ∨ i.1 = 2 ∨ i.1 = 3 ∨ i.1 = 4 ∨ i.1 = 5 := by omega
    rcases this with e | e | e | e | e | e
    · rw [e]; exact ⟨ok95 F, by rw [ln95 F]; exact vp_of (b3 (by omega)) (by decide)⟩
    · rw [e]; exact ⟨ok96 F, by rw [ln96 F]; exact vp_of (b3 (by omega)) (by decide)⟩
    · rw [e]; exact ⟨ok97 F, by rw [ln97 F]; exact vp_of (b3 (by omega)) (by decide)⟩
    · rw [e]; exact ⟨ok98 F, by rw [ln98 F]; exact vp_of (b3 (by omega)) (by decide)⟩
    · rw [e]; exact ⟨ok99 F, by rw [ln99 F]; exact vp_of b2 (by decide)⟩
    · rw [e]; exact ⟨ok100 F, by rw [ln100 F]; exact vp_of (b4 e) (by decide)⟩
  have up_same : ρ i = a → upP ρ i a = ρ := fun e => by
    funext j
    unfold upP
    by_cases z : j = i
    · rw [if_pos z, z]; exact e.symm
    · rw [if_neg z]
  refine KX11_known ?_
  unfold DX11_known_0 DX11_known_16
  rw [lt32 (show plX R i < 2147483648 by omega), hV.at hi]
  refine ⟨okc.1, okc.2, fun z => ?_, fun z => ⟨okc.2, fun M2 e2 => ⟨?_, Or.inr rfl, fun M4 e4 => ?_⟩⟩⟩
  · have e : ρ i = a := inj32 (by have := hV.1 i; omega) (by omega) z
    refine K M ?_
    rw [up_same e]
    exact SvS.rf hV
  · rw [e2]; exact ok29 F
  · have ne : ρ i ≠ a := fun e => z (by rw [e])
    have V2 := hV.up h20 hi ha e2
    have k2 : RbF M M2 := RbF.up (by omega) e2
    have k4 : RbF M2 M4 := RbF.wi e4
    refine K M4 ⟨k2.tr k4, V2.rm (fun c _ _ => by rw [e4]; rfl), fun j => ?_, Or.inr ⟨by rw [e4]; exact mI_own _ _ _ _, i, hi, ?_⟩⟩
    · unfold upP
      by_cases z : j = i
      · rw [if_pos z, z]; exact hl
      · rw [if_neg z]; exact lq3.rf
    · unfold upP
      rw [if_pos rfl]
      exact ne
end
end
section
/-! the reference enters a node: go, res, susp, kill, and a signal that is emitted -/
section
variable {R : RMo} {I : RIn} {sl : List Nat} {ρ : Plc → Nat} {M M1 M' : Mem} {h y : Nat} {Q : Option Value → Mem → Prop}
/-- what is known of the signals that are emitted -/
def EmL (R : RMo) : Prop := ∀ y, inR R y → (moS R).2 80 y = 1 → ∃ s, s < moQ R ∧ moA R 60 ((moS R).2 81 y).toNatClampNeg = Int32.ofNat s ∧ moT R s ≠ 0
theorem SvS.rm {ρ1 : Plc → Nat} (k : SvS R ρ M ρ1 M1) (hS : RmS R sl M) : RmS R sl M1 := k.1.rm hS
theorem en_le (hS : RmS R sl M) (hI : RbI R I M) (hb : ∀ s, iBf I s ≤ 1) (hV : RSv R ρ M) (hL : NdL R) (hy : inR R y) {c : Nat} (hc : c ≤ 3) : enR R I ρ c y ≤ 2 := by
  unfold enR
  by_cases u : (moS R).2 86 y = -1
  · rw [if_pos u]
    by_cases c0 : c = 0
    · rw [if_pos c0]; split <;> decide
    · rw [if_neg c0]
      by_cases c1 : c = 1
      · rw [if_pos c1]; split <;> decide
      · rw [if_neg c1]; decide
  rw [if_neg u]
  by_cases c0 : c = 0
  · rw [if_pos c0]
    by_cases k4 : (moS R).2 80 (upR R y) = 4 ∨ (moS R).2 80 (upR R y) = 5
    · rw [if_pos k4]; exact v3A_le _ _
    rw [if_neg k4]
    by_cases k6 : (moS R).2 80 (upR R y) = 6
    · rw [if_pos k6]
      split
      · exact hV.1 _
      · exact hV.1 _
    rw [if_neg k6]
    by_cases k7 : (moS R).2 80 (upR R y) = 7
    · rw [if_pos k7]; exact v3O_le _ _
    · rw [if_neg k7]; exact hV.1 _
  rw [if_neg c0]
  by_cases c1 : c = 1
  · rw [if_pos c1]
    by_cases k8 : (moS R).2 80 (upR R y) = 8
    · rw [if_pos k8]; exact v3A_le _ _
    · rw [if_neg k8]; exact hV.1 _
  rw [if_neg c1]
  by_cases c2 : c = 2
  · rw [if_pos c2]
    by_cases k8 : (moS R).2 80 (upR R y) = 8
    · rw [if_pos k8]; exact v3O_le _ _
    · rw [if_neg k8]; exact hV.1 _
  rw [if_neg c2]
  by_cases k10 : (moS R).2 80 (upR R y) = 10
  · rw [if_pos k10]; exact v3O_le _ _
  · rw [if_neg k10]; exact hV.1 _
theorem Fr_en (hy : inR R y) {c : Nat} (hc : c ≤ 3) : FrR R I ρ (c, y, 0) = enR R I ρ c y := by
  show FrA R I ρ c y 0 = _
  unfold FrA
  rw [if_pos hc, if_pos ⟨hy, rfl⟩]
theorem R_en343 (hS : RmS R sl M) (hI : RbI R I M) (hb : ∀ s, iBf I s ≤ 1) (hV : RSv R ρ M) (hL : NdL R) (hM : EmL R) (hy : inR R y) (hJ : JF (FrR R I) ρ) (A1 : ArF (fun c => c = 101) M M1) (K : ∀ ρ' M', SvS R ρ M ρ' M' → JF (FrR R I) ρ' → (ρ' = ρ → ∀ c, c ≤ 3 → FrR R I ρ (c, y, 0) = ρ (c, y, 0)) → Q none M') : DX11_enter_343 (h + 1) 29 (Int32.ofNat y) (Int32.ofNat (y - 700 * moM R)) (Int32.ofNat (enR R I ρ 0 y)) (Int32.ofNat (enR R I ρ 1 y)) (Int32.ofNat (enR R I ρ 2 y)) (Int32.ofNat (enR R I ρ 3 y)) M1 Q := by
  obtain ⟨b1, b2, b3⟩ := hy.b hS
  have le : ∀ c, c ≤ 3 → enR R I ρ c y ≤ 2 := fun c hc => en_le hS hI hb hV hL hy hc
  have lq : ∀ c, c ≤ 3 → lq3 (ρ (c, y, 0)) (enR R I ρ c y) := fun c hc => by
    have q := hJ.1 (c, y, 0)
    rw [Fr_en hy hc] at q
    exact q
  have pl : ∀ c, c ≤ 3 → plR R (c, y, 0) := fun c hc => Or.inl ⟨hc, hy, rfl⟩
  have s1 : SvS R ρ M ρ M1 := SvS.ar hV A1
  obtain ⟨ρa, ea⟩ : ∃ ρa, ρa = upP ρ (0, y, 0) (enR R I ρ 0 y) := ⟨_, rfl⟩
  obtain ⟨ρb, eb⟩ : ∃ ρb, ρb = upP ρa (1, y, 0) (enR R I ρ 1 y) := ⟨_, rfl⟩
  obtain ⟨ρc, ec⟩ : ∃ ρc, ρc = upP ρb (2, y, 0) (enR R I ρ 2 y) := ⟨_, rfl⟩
  obtain ⟨ρd, ed⟩ : ∃ ρd, ρd = upP ρc (3, y, 0) (enR R I ρ 3 y) := ⟨_, rfl⟩
  have val : ∀ j, ρd j = if j = (3, y, 0) then enR R I ρ 3 y else if j = (2, y, 0) then enR R I ρ 2 y else if j = (1, y, 0) then enR R I ρ 1 y else if j = (0, y, 0) then enR R I ρ 0 y else ρ j := fun j => by rw [ed, ec, eb, ea]; rfl
  have ne : ∀ {a b : Nat}, a ≠ b → ((a, y, 0) : Plc) ≠ (b, y, 0) := fun n e => n (congrArg Prod.fst e)
  have v0 : ρd (0, y, 0) = enR R I ρ 0 y := by rw [val, if_neg (ne (by decide)), if_neg (ne (by decide)), if_neg (ne (by decide)), if_pos rfl]
  have v1 : ρd (1, y, 0) = enR R I ρ 1 y := by rw [val, if_neg (ne (by decide)), if_neg (ne (by decide)), if_pos rfl]
  have v2 : ρd (2, y, 0) = enR R I ρ 2 y := by rw [val, if_neg (ne (by decide)), if_pos rfl]
  have v3 : ρd (3, y, 0) = enR R I ρ 3 y := by rw [val, if_pos rfl]
  have vv : ∀ c, c ≤ 3 → ρd (c, y, 0) = FrR R I ρ (c, y, 0) := fun c hc => by
    rw [Fr_en hy hc]
    have : c = 0 ∨ c = 1 ∨ c = 2 ∨ c = 3 := by omega
    rcases this with e | e | e | e <;> rw [e]
    · exact v0
    · exact v1
    · exact v2
    · exact v3
  have Jd := hJ.up (v' := ρd) FrR_mo (fun j => by
    by_cases z : ∃ c, c ≤ 3 ∧ j = (c, y, 0)
    · obtain ⟨c, hc, e⟩ := z
      rw [e]; exact Or.inr (vv c hc)
    · refine Or.inl ?_
      have n : ∀ c, c ≤ 3 → j ≠ (c, y, 0) := fun c hc e => z ⟨c, hc, e⟩
      rw [val, if_neg (n 3 (by decide)), if_neg (n 2 (by decide)), if_neg (n 1 (by decide)), if_neg (n 0 (by decide))])
  have la : lq3 (ρa (1, y, 0)) (enR R I ρ 1 y) := by
    rw [ea]; unfold upP; rw [if_neg (ne (by decide))]; exact lq 1 (by decide)
  have lb : lq3 (ρb (2, y, 0)) (enR R I ρ 2 y) := by
    rw [eb, ea]; unfold upP; rw [if_neg (ne (by decide)), if_neg (ne (by decide))]; exact lq 2 (by decide)
  have lc : lq3 (ρc (3, y, 0)) (enR R I ρ 3 y) := by
    rw [ec, eb, ea]; unfold upP; rw [if_neg (ne (by decide)), if_neg (ne (by decide)), if_neg (ne (by decide))]; exact lq 3 (by decide)
  have F1 := s1.1.fix hI.1
  unfold DX11_enter_343 DX11_enter_423
  rw [lt32 (show y < 2147483648 by omega)]
  refine ⟨ok29 F1, 95, rf29_77 F1, R_known (i := (0, y, 0)) (h := h) (s1.rm hS) F1 s1.2.1 (pl 0 (by decide)) (le 0 (by decide)) (lq 0 (by decide)) (fun M3 k3 _ => ⟨rfl, ?_⟩)⟩
  rw [← ea] at k3
  have F3 := k3.1.fix F1
  have S3 := k3.rm (s1.rm hS)
  refine ⟨96, rf29_78 F3, R_known (i := (1, y, 0)) (h := h) S3 F3 k3.2.1 (pl 1 (by decide)) (le 1 (by decide)) la (fun M5 k5 _ => ⟨rfl, ?_⟩)⟩
  rw [← eb] at k5
  have F5 := k5.1.fix F3
  have S5 := k5.rm S3
  refine ⟨97, rf29_79 F5, R_known (i := (2, y, 0)) (h := h) S5 F5 k5.2.1 (pl 2 (by decide)) (le 2 (by decide)) lb (fun M7 k7 _ => ⟨rfl, ?_⟩)⟩
  rw [← ec] at k7
  have F7 := k7.1.fix F5
  have S7 := k7.rm S5
  refine ⟨98, rf29_80 F7, R_known (i := (3, y, 0)) (h := h) S7 F7 k7.2.1 (pl 3 (by decide)) (le 3 (by decide)) lc (fun M9 k9 _ => ⟨rfl, ?_⟩)⟩
  rw [← ed] at k9
  have F9 := k9.1.fix F7
  have S9 := k9.rm S7
  have kk : SvS R ρ M ρd M9 := ((((s1.tr k3).tr k5).tr k7).tr k9)
  have done : Q none M9 := K ρd M9 kk Jd.1 (fun e c hc => by rw [← vv c hc, e])
  have e80 : mAI M9 80 y = (moS R).2 80 y := S9.2.1 80 y (by decide) (by decide) hy
  refine ⟨80, rf29_62 F9, ok80 F9, by rw [ln80 F9]; exact vp_of (by omega) (by decide), fun _ => done, fun z1 => ⟨fun _ => done, fun z2 => ?_⟩⟩
  rw [e80] at z1
  have g1 : enR R I ρ 0 y = 1 := (t1_ (le 0 (by decide))).mp z2
  obtain ⟨s, s1', s2, s3⟩ := hM y hy z1
  obtain ⟨j, j1, j2⟩ := (hL y hy).2.1 (Or.inr z1)
  have h4 := hS.1.1
  have q16 := hS.1.2.2.1
  have e81 : mAI M9 81 y = Int32.ofNat (40 * moM R + j) := by rw [S9.2.1 81 y (by decide) (by decide) hy]; exact j2
  rw [j2, lt32 (by omega)] at s2
  have e60 : mAI M9 60 (40 * moM R + j) = Int32.ofNat s := by rw [S9.2.2.2.1 60 (40 * moM R + j) (by decide) (by decide) (by omega) (by omega)]; exact s2
  refine ⟨100, rf29_82 F9, 60, rf29_40 F9, 81, rf29_63 F9, ok81 F9, by rw [ln81 F9]; exact vp_of (by omega) (by decide), ok60 F9, ?_⟩
  rw [e81, lt32 (show 40 * moM R + j < 2147483648 by omega), e60]
  have f1 : FrR R I ρd (5, s, 0) = 1 := by
    show FrA R I ρd 5 s 0 = 1
    unfold FrA
    rw [if_neg (by decide), if_neg (by decide), if_pos ⟨rfl, s1', rfl⟩, if_neg s3]
    obtain ⟨i1, i2⟩ := id hy
    have ed : 700 * moM R + (y - 700 * moM R) = y := by omega
    refine (emR_e (moS R).1).1.mpr ⟨y - 700 * moM R, by omega, ⟨by rw [ed]; exact z1, by rw [ed, j2, lt32 (by omega)]; exact s2⟩, ?_⟩
    rw [ed, v0]; exact g1
  have lq5 : lq3 (ρd (5, s, 0)) 1 := by
    have q := Jd.1.1 (5, s, 0)
    rw [f1] at q
    exact q
  refine ⟨by rw [ln60 F9]; exact vp_of (by omega) (by decide), R_known (i := (5, s, 0)) (a := 1) (h := h) S9 F9 k9.2.1 (Or.inr (Or.inr ⟨rfl, s1', rfl⟩)) (by decide) lq5 (fun M17 k17 _ => ⟨rfl, ?_⟩)⟩
  have J17 := Jd.1.up (v' := upP ρd (5, s, 0) 1) FrR_mo (fun i => by
    unfold upP
    by_cases z : i = (5, s, 0)
    · rw [if_pos z, z]; exact Or.inr f1.symm
    · rw [if_neg z]; exact Or.inl rfl)
  refine K _ M17 (kk.tr k17) J17.1 (fun e c hc => ?_)
  rw [← vv c hc]
  have q := congrFun e (c, y, 0)
  unfold upP at q
  rw [if_neg (fun z => by have := congrArg Prod.fst z; have : c = 5 := this; omega)] at q
  exact q
theorem R_enter (hS : RmS R sl M) (hI : RbI R I M) (hb : ∀ s, iBf I s ≤ 1) (hV : RSv R ρ M) (hL : NdL R) (hM : EmL R) (hy : inR R y) (hJ : JF (FrR R I) ρ) (K : ∀ ρ' M', SvS R ρ M ρ' M' → JF (FrR R I) ρ' → (ρ' = ρ → ∀ c, c ≤ 3 → FrR R I ρ (c, y, 0) = ρ (c, y, 0)) → Q none M') : E (h + 4) mdX11_enter [.ref 29, .int (Int32.ofNat y)] M Q := by
  obtain ⟨b1, b2, b3⟩ := hy.b hS
  have F := hI.1
  have h4 := hS.1.1
  have h7 := hS.1.2.1.1.2
  have ml := hV.1
  have tail : ∀ (M1 : Mem) (a0 a1 a2 a3 : Nat), ArF (fun c => c = 101) M M1 → enR R I ρ 0 y = a0 → enR R I ρ 1 y = a1 → enR R I ρ 2 y = a2 → enR R I ρ 3 y = a3 → DX11_enter_343 (h + 3) 29 (Int32.ofNat y) (Int32.ofNat (y - 700 * moM R)) (Int32.ofNat a0) (Int32.ofNat a1) (Int32.ofNat a2) (Int32.ofNat a3) M1 Q := fun M1 a0 a1 a2 a3 A1 e0 e1 e2 e3 => by
    rw [← e0, ← e1, ← e2, ← e3]
    exact R_en343 (h := h + 2) hS hI hb hV hL hM hy hJ A1 K
  have e86 : mAI M 86 y = (moS R).2 86 y := hS.2.1 86 y (by decide) (by decide) hy
  have e85 : mAI M 85 y = (moS R).2 85 y := hS.2.1 85 y (by decide) (by decide) hy
  have ly : (Int32.ofNat y).toNatClampNeg = y := lt32 (by omega)
  have v28 : ∀ {z : Nat}, z = 2800 → vp_in (Int32.ofNat y) z := fun e => by rw [e]; exact vp_of (by omega) (by decide)
  -- behind the beginning: g and r as a first beat has them
  have go : ∀ (a b : Nat), ((iFi I = 1 ∧ a = 1 ∧ b = 0) ∨ (iFi I ≠ 1 ∧ a = 0 ∧ b = 1)) → DX11_enter_44 (h + 3) 29 (Int32.ofNat y) (Int32.ofNat (y - 700 * moM R)) ((moS R).2 86 y) (Int32.ofNat a) (Int32.ofNat b) M Q := by
    intro a b hab
    unfold DX11_enter_44
    by_cases u : (moS R).2 86 y = -1
    · refine ⟨fun _ => ?_, fun z => absurd u z⟩
      have r0 : ∀ c, enR R I ρ c y = rtV I c := fun c => by unfold enR rtV; rw [if_pos u]
      refine tail M a b 0 0 ArF.rf ?_ ?_ (by rw [r0]; rfl) (by rw [r0]; rfl)
      · rw [r0]
        unfold rtV
        rcases hab with ⟨f, e, -⟩ | ⟨f, e, -⟩
        · rw [if_pos rfl, if_pos f, e]
        · rw [if_pos rfl, if_neg f, e]
      · rw [r0]
        unfold rtV
        rcases hab with ⟨f, -, e⟩ | ⟨f, -, e⟩
        · rw [if_neg (by decide), if_pos rfl, if_pos f, e]
        · rw [if_neg (by decide), if_pos rfl, if_neg f, e]
    · refine ⟨fun z => absurd z u, fun _ => ?_⟩
      obtain ⟨p, pi, pe, pm⟩ : ∃ p, inR R p ∧ (moS R).2 86 y = Int32.ofNat p ∧ y ∈ moG R p := by
        rcases hS.1.2.1.2.2.2.1 y hy.1 hy.2 with e | ⟨p, p1, p2, p3⟩
        · exact absurd e u
        · exact ⟨p, p1, p2, p3⟩
      obtain ⟨d1, d2, d3⟩ := pi.b hS
      have up : upR R y = p := by unfold upR; rw [pe]; exact lt32 (by omega)
      obtain ⟨⟨t, t10, et⟩, -⟩ := hL p pi
      have e80 : mAI M 80 p = Int32.ofNat t := by rw [hS.2.1 80 p (by decide) (by decide) pi, et]
      have lp : (Int32.ofNat p).toNatClampNeg = p := lt32 (by omega)
      have v28p : ∀ {z : Nat}, z = 2800 → vp_in (Int32.ofNat p) z := fun e => by rw [e]; exact vp_of (by omega) (by decide)
      have v70 : ∀ {z : Nat}, z = 700 → vp_in (Int32.ofNat (p - 700 * moM R)) z := fun e => by rw [e]; exact vp_of (by omega) (by decide)
      have r0 : mAI M 95 (p - 700 * moM R) = Int32.ofNat (ρ (0, p, 0)) := hV.2.2.1 0 p (by decide) pi
      have r1 : mAI M 96 (p - 700 * moM R) = Int32.ofNat (ρ (1, p, 0)) := hV.2.2.1 1 p (by decide) pi
      have r2 : mAI M 97 (p - 700 * moM R) = Int32.ofNat (ρ (2, p, 0)) := hV.2.2.1 2 p (by decide) pi
      have r3 : mAI M 98 (p - 700 * moM R) = Int32.ofNat (ρ (3, p, 0)) := hV.2.2.1 3 p (by decide) pi
      -- the four wires by the parent's kind
      have z0 : enR R I ρ 0 y = (if (moS R).2 80 p = 4 ∨ (moS R).2 80 p = 5 then v3A (ρ (0, p, 0)) (if (moS R).2 85 y = -1 then lokR R I ρ p else v3N (lokR R I ρ p)) else if (moS R).2 80 p = 6 then (if (moS R).2 85 y = -1 then ρ (0, p, 0) else ρ (4, ((moS R).2 85 y).toNatClampNeg, 0)) else if (moS R).2 80 p = 7 then v3O (ρ (0, p, 0)) (ρ (4, y, 0)) else ρ (0, p, 0)) := by
        unfold enR
        rw [if_neg u, if_pos rfl, up]
      have z1 : enR R I ρ 1 y = (if (moS R).2 80 p = 8 then v3A (hdV (iSet I) (moK R p) (ρ (1, p, 0))) (v3N (lokR R I ρ p)) else ρ (1, p, 0)) := by
        unfold enR
        rw [if_neg u, if_neg (by decide), if_pos rfl, up]
      have z2 : enR R I ρ 2 y = (if (moS R).2 80 p = 8 then v3O (ρ (2, p, 0)) (v3A (hdV (iSet I) (moK R p) (ρ (1, p, 0))) (lokR R I ρ p)) else ρ (2, p, 0)) := by
        unfold enR
        rw [if_neg u, if_neg (by decide), if_neg (by decide), if_pos rfl, up]
      have z3 : enR R I ρ 3 y = (if (moS R).2 80 p = 10 then v3O (ρ (3, p, 0)) (ρ (4, y, 2)) else ρ (3, p, 0)) := by
        unfold enR
        rw [if_neg u, if_neg (by decide), if_neg (by decide), if_neg (by decide), up]
      rw [et] at z0 z1 z2 z3
      have lle := lok_le hS hI hb hV hL pi
      have tt : t = 0 ∨ t = 1 ∨ t = 2 ∨ t = 3 ∨ t = 4 ∨ t = 5 ∨ t = 6 ∨ t = 7 ∨ t = 8 ∨ t = 9 ∨ t = 10 := by omega
      -- a choice
      have c185 : ∀ M1, ArF (fun c => c = 101) M M1 → (t = 4 ∨ t = 5) → DX11_enter_185 (h + 3) 29 (Int32.ofNat y) (Int32.ofNat (y - 700 * moM R)) (Int32.ofNat (ρ (0, p, 0))) (Int32.ofNat (ρ (1, p, 0))) (Int32.ofNat (ρ (2, p, 0))) (Int32.ofNat (ρ (3, p, 0))) (Int32.ofNat (lokR R I ρ p)) M1 Q := fun M1 A1 ht => by
        have F1 := (A1.rb (fun c z => by omega)).fix F
        have k4 : Int32.ofNat t = 4 ∨ Int32.ofNat t = 5 := by
          rcases ht with e | e <;> rw [e]
          · exact Or.inl rfl
          · exact Or.inr rfl
        have n8 : ¬ Int32.ofNat t = 8 := by rcases ht with e | e <;> rw [e] <;> decide
        have n10 : ¬ Int32.ofNat t = 10 := by rcases ht with e | e <;> rw [e] <;> decide
        rw [if_pos k4] at z0
        rw [if_neg n8] at z1 z2
        rw [if_neg n10] at z3
        have g85 : mAI M1 85 y = (moS R).2 85 y := by rw [A1.2.2 85 (by decide)]; exact e85
        unfold DX11_enter_185 DX11_enter_209
        rw [ly]
        refine ⟨ok29 F1, 85, rf29_67 F1, ok85 F1, v28 (ln85 F1), ?_⟩
        rw [g85]
        refine ⟨fun z => ?_, fun z => ?_⟩
        · rw [if_neg z] at z0
          exact R_other (h := h + 2) lle (fun _ => ⟨_, rfl, R_both (h := h + 2) (ml _) (v3N_le _) (fun _ => ⟨_, rfl, tail M1 _ _ _ _ A1 z0 z1 z2 z3⟩)⟩)
        · rw [if_pos z] at z0
          exact R_both (h := h + 2) (ml _) lle (fun _ => ⟨_, rfl, tail M1 _ _ _ _ A1 z0 z1 z2 z3⟩)
      rw [pe, hI.2.1, ix700 d3 (by omega), lt32 (show p - 700 * moM R < 2147483648 by omega), lp]
      refine ⟨ok29 F, 95, rf29_77 F, ok95 F, v70 (ln95 F), 96, rf29_78 F, ok96 F, v70 (ln96 F), 97, rf29_79 F, ok97 F, v70 (ln97 F), 98, rf29_80 F, ok98 F, v70 (ln98 F), 80, rf29_62 F, ok80 F, v28p (ln80 F), ?_⟩
      rw [r0, r1, r2, r3, e80]
      have oth : (t = 0 ∨ t = 1 ∨ t = 2 ∨ t = 3 ∨ t = 9) → DX11_enter_343 (h + 3) 29 (Int32.ofNat y) (Int32.ofNat (y - 700 * moM R)) (Int32.ofNat (ρ (0, p, 0))) (Int32.ofNat (ρ (1, p, 0))) (Int32.ofNat (ρ (2, p, 0))) (Int32.ofNat (ρ (3, p, 0))) M Q := fun ht => by
        have n : ¬ (Int32.ofNat t = 4 ∨ Int32.ofNat t = 5) ∧ ¬ Int32.ofNat t = 6 ∧ ¬ Int32.ofNat t = 7 ∧ ¬ Int32.ofNat t = 8 ∧ ¬ Int32.ofNat t = 10 := by
          rcases ht with e | e | e | e | e <;> rw [e] <;> decide
        rw [if_neg n.1, if_neg n.2.1, if_neg n.2.2.1] at z0
        rw [if_neg n.2.2.2.1] at z1 z2
        rw [if_neg n.2.2.2.2] at z3
        exact tail M _ _ _ _ ArF.rf z0 z1 z2 z3
      rcases tt with z | z | z | z | z | z | z | z | z | z | z
      · have q := oth (Or.inl z)
        subst z
        exact ⟨fun q => absurd q (by decide), fun q => absurd q (by decide), fun q => absurd q (by decide), fun q => absurd q (by decide), fun q => absurd q (by decide), fun q => absurd q (by decide), fun q => absurd q (by decide), fun _ => q⟩
      · have q := oth (Or.inr (Or.inl z))
        subst z
        exact ⟨fun q => absurd q (by decide), fun q => absurd q (by decide), fun q => absurd q (by decide), fun q => absurd q (by decide), fun q => absurd q (by decide), fun q => absurd q (by decide), fun q => absurd q (by decide), fun _ => q⟩
      · have q := oth (Or.inr (Or.inr (Or.inl z)))
        subst z
        exact ⟨fun q => absurd q (by decide), fun q => absurd q (by decide), fun q => absurd q (by decide), fun q => absurd q (by decide), fun q => absurd q (by decide), fun q => absurd q (by decide), fun q => absurd q (by decide), fun _ => q⟩
      · have q := oth (Or.inr (Or.inr (Or.inr (Or.inl z))))
        subst z
        exact ⟨fun q => absurd q (by decide), fun q => absurd q (by decide), fun q => absurd q (by decide), fun q => absurd q (by decide), fun q => absurd q (by decide), fun q => absurd q (by decide), fun q => absurd q (by decide), fun _ => q⟩
      · have q := fun M1 A1 => c185 M1 A1 (Or.inl z)
        subst z
        refine ⟨fun _ => ⟨80, rf29_62 F, ok80 F, v28p (ln80 F), ?_⟩, fun q => absurd q (by decide), fun q => absurd q (by decide), fun q => absurd q (by decide), fun q => absurd q (by decide), fun q => absurd q (by decide), fun q => absurd q (by decide), fun q => absurd q (by decide)⟩
        rw [e80]
        exact ⟨fun _ => ⟨81, rf29_63 F, ok81 F, v28p (ln81 F), R_lok (h := h + 1) hS hI hb hV hL pi (Or.inl et) (fun M1 A1 _ => ⟨_, rfl, q M1 A1⟩)⟩, fun q => absurd q (by decide)⟩
      · have q := c185 M ArF.rf (Or.inr z)
        subst z
        refine ⟨fun q => absurd q (by decide), fun _ => ⟨80, rf29_62 F, ok80 F, v28p (ln80 F), ?_⟩, fun q => absurd q (by decide), fun q => absurd q (by decide), fun q => absurd q (by decide), fun q => absurd q (by decide), fun q => absurd q (by decide), fun q => absurd q (by decide)⟩
        rw [e80]
        exact ⟨fun q => absurd rfl q, fun _ => ⟨81, rf29_63 F, ok81 F, v28p (ln81 F), R_lok5 (h := h + 2) (ρ := ρ) hS hI hL pi et (fun _ => ⟨_, rfl, q⟩)⟩⟩
      · subst z
        rw [if_neg (by decide), if_pos (show Int32.ofNat 6 = 6 from rfl)] at z0
        rw [if_neg (by decide)] at z1 z2 z3
        unfold DX11_enter_243
        refine ⟨fun q => absurd q (by decide), fun q => absurd q (by decide), fun _ => ⟨85, rf29_67 F, ok85 F, ?_⟩, fun q => absurd q (by decide), fun q => absurd q (by decide), fun q => absurd q (by decide), fun q => absurd q (by decide), fun q => absurd q (by decide)⟩
        rw [ly, e85]
        refine ⟨v28 (ln85 F), fun z => ⟨85, rf29_67 F, ok85 F, v28 (ln85 F), ?_⟩, fun z => ?_⟩
        · rw [if_neg z] at z0
          obtain ⟨i, il, ie⟩ := List.mem_iff_getElem.mp pm
          have ez : (moG R p).getD i 0 = y := by rw [gd_el il]; exact ie
          have kd := kid_up hS.1.2.1 pi il
          rw [ez] at kd
          have i0 : i ≠ 0 := fun e => z (kd.2.2.1.mpr e)
          obtain ⟨j, ej⟩ : ∃ j, i = j + 1 := ⟨i - 1, by omega⟩
          have q4 := kd.2.2.2.1 j ej
          have iz := ((kid_ix hS pi).2 j (by omega)).1
          have w := iz.b hS
          have e85n : (moS R).2 85 y = Int32.ofNat ((moG R p).getD j 0) := by
            obtain ⟨⟨-, -, l3, -, -⟩, -, -⟩ := hS.1.2.1.2.1 p pi.1 pi.2
            have := (l3 j (by omega)).2
            rw [← ej, ez] at this
            exact this
          rw [q4] at z0
          rw [e85, e85n]
          exact R_k (h := h + 2) (n := 0) hS hI hV iz (by have := hS.1.2.2.2.1; omega) (fun _ => ⟨_, rfl, tail M _ _ _ _ ArF.rf z0 z1 z2 z3⟩)
        · rw [if_pos z] at z0
          exact tail M _ _ _ _ ArF.rf z0 z1 z2 z3
      · subst z
        rw [if_neg (by decide), if_neg (by decide), if_pos (show Int32.ofNat 7 = 7 from rfl)] at z0
        rw [if_neg (by decide)] at z1 z2 z3
        exact ⟨fun q => absurd q (by decide), fun q => absurd q (by decide), fun q => absurd q (by decide), fun _ => R_k (h := h + 2) (n := 0) hS hI hV hy (by have := hS.1.2.2.2.1; omega) (fun _ => ⟨_, rfl, R_either (h := h + 2) (ml _) (ml _) (fun _ => ⟨_, rfl, tail M _ _ _ _ ArF.rf z0 z1 z2 z3⟩)⟩), fun q => absurd q (by decide), fun q => absurd q (by decide), fun q => absurd q (by decide), fun q => absurd q (by decide)⟩
      · subst z
        rw [if_neg (by decide), if_neg (by decide), if_neg (by decide)] at z0
        rw [if_pos (show Int32.ofNat 8 = 8 from rfl), hdV_if (ml _)] at z1 z2
        rw [if_neg (by decide)] at z3
        have c296 : ∀ (M1 : Mem) (a : Nat), ArF (fun c => c = 101) M M1 → a ≤ 2 → (if iSet I &&& moK R p = 0 then 0 else ρ (1, p, 0)) = a → DX11_enter_296 (h + 3) 29 (Int32.ofNat y) (Int32.ofNat (y - 700 * moM R)) (Int32.ofNat (ρ (0, p, 0))) (Int32.ofNat (ρ (2, p, 0))) (Int32.ofNat (ρ (3, p, 0))) (Int32.ofNat (lokR R I ρ p)) (Int32.ofNat a) M1 Q := fun M1 a A1 ha ea => by
          rw [ea] at z1 z2
          unfold DX11_enter_296
          exact R_other (h := h + 2) lle (fun _ => ⟨_, rfl, R_both (h := h + 2) ha (v3N_le _) (fun _ => ⟨_, rfl, R_both (h := h + 2) ha lle (fun _ => ⟨_, rfl, R_either (h := h + 2) (ml _) (v3A_le _ _) (fun _ => ⟨_, rfl, tail M1 _ _ _ _ A1 z0 z1 z2 z3⟩)⟩)⟩)⟩)
        refine ⟨fun q => absurd q (by decide), fun q => absurd q (by decide), fun q => absurd q (by decide), fun q => absurd q (by decide), fun _ => ⟨81, rf29_63 F, ok81 F, v28p (ln81 F), R_lok (h := h + 1) hS hI hb hV hL pi (Or.inr et) (fun M1 A1 _ => ⟨_, rfl, ?_⟩)⟩, fun q => absurd q (by decide), fun q => absurd q (by decide), fun q => absurd q (by decide)⟩
        have rb := A1.rb (fun c z => by omega)
        have F1 := rb.fix F
        have I1 := rb.bi hI
        have S1 := rb.rm hS
        have m87 := (S1.2.2.1 p pi).1
        refine ⟨87, rf29_69 F1, ok87 F1, v28p (ln87 F1), ?_⟩
        rw [m87, I1.2.2.1]
        exact ⟨fun z => c296 M1 0 A1 (by decide) (if_pos z), fun z => c296 M1 _ A1 (ml _) (if_neg z)⟩
      · have q := oth (Or.inr (Or.inr (Or.inr (Or.inr z))))
        subst z
        exact ⟨fun q => absurd q (by decide), fun q => absurd q (by decide), fun q => absurd q (by decide), fun q => absurd q (by decide), fun q => absurd q (by decide), fun _ => q, fun q => absurd q (by decide), fun q => absurd q (by decide)⟩
      · subst z
        rw [if_neg (by decide), if_neg (by decide), if_neg (by decide)] at z0
        rw [if_neg (by decide)] at z1 z2
        rw [if_pos (show Int32.ofNat 10 = 10 from rfl)] at z3
        exact ⟨fun q => absurd q (by decide), fun q => absurd q (by decide), fun q => absurd q (by decide), fun q => absurd q (by decide), fun q => absurd q (by decide), fun q => absurd q (by decide), fun _ => R_k (h := h + 2) (n := 2) hS hI hV hy (by have := hS.1.2.2.2.1; omega) (fun _ => ⟨_, rfl, R_either (h := h + 2) (ml _) (ml _) (fun _ => ⟨_, rfl, tail M _ _ _ _ ArF.rf z0 z1 z2 z3⟩)⟩), fun q => absurd q (by decide)⟩
  refine KX11_enter (h := h + 3) ?_
  unfold DX11_enter_0 DX11_enter_30
  rw [ly, hI.2.1, ix700 b3 (by omega)]
  refine ⟨ok29 F, 86, rf29_68 F, ok86 F, v28 (ln86 F), ?_⟩
  rw [e86]
  refine ⟨fun z => ⟨ok29 F, fun _ => go 0 1 (Or.inr ⟨hI.2.2.2.2.1.mp z, rfl, rfl⟩), fun z2 => absurd z z2⟩, fun z => ⟨ok29 F, fun z2 => absurd z2 z, fun _ => go 1 0 (Or.inl ⟨?_, rfl, rfl⟩)⟩⟩
  by_cases f : iFi I = 1
  · exact f
  · exact absurd (hI.2.2.2.2.1.mpr f) z
end
end
section
/-! the reference's signals -/
def SgL (R : RMo) : Prop := ∀ s, s < moQ R → ∃ t, t ≤ 5 ∧ moT R s = Int32.ofNat t
/-- inputs are as they were given -/
def InK (R : RMo) (I : RIn) (ρ : Plc → Nat) : Prop := ∀ s, s < moQ R → moT R s = 0 → ρ (5, s, 0) = iGv I s ∧ iGv I s ≤ 1
section
variable {R : RMo} {I : RIn} {sl : List Nat} {ρ ρ1 : Plc → Nat} {M M1 M' : Mem} {h y s : Nat} {Q : Option Value → Mem → Prop}
theorem InK.lq (h : InK R I ρ) (k : Lq ρ ρ1) : InK R I ρ1 := fun s hs h0 => by
  obtain ⟨a, b⟩ := h s hs h0
  refine ⟨?_, b⟩
  rcases k (5, s, 0) with e | e
  · rw [a] at e; omega
  · rw [← e]; exact a
theorem Fr_sg (hs : s < moQ R) (h0 : moT R s ≠ 0) : FrR R I ρ (5, s, 0) = emR R ρ s (moS R).1 := by
  show FrA R I ρ 5 s 0 = _
  unfold FrA
  rw [if_neg (by decide), if_neg (by decide), if_pos ⟨rfl, hs, rfl⟩, if_neg h0]
theorem Fr_in (hs : s < moQ R) (h0 : moT R s = 0) : FrR R I ρ (5, s, 0) = iGv I s := by
  show FrA R I ρ 5 s 0 = _
  unfold FrA
  rw [if_neg (by decide), if_neg (by decide), if_pos ⟨rfl, hs, rfl⟩, if_pos h0]
/-- one signal -/
theorem R_sg1 (hS : RmS R sl M) (hI : RbI R I M) (hV : RSv R ρ M) (hL : NdL R) (hs : s < moQ R) (h0 : moT R s ≠ 0) (hJ : JF (FrR R I) ρ) (K : ∀ M', SvS R ρ M (upP ρ (5, s, 0) (emR R ρ s (moS R).1)) M' → T (h + 2) mdX11_signalsNow 2 [(0, .ref 29), (1, .int (Int32.ofNat (s + 1)))] [] M' Q) : T (h + 2) mdX11_signalsNow 43 [(0, .ref 29), (1, .int (Int32.ofNat s)), (2, .int 0), (3, .int (Int32.ofNat (700 * moM R)))] [] M Q := by
  have F := hI.1
  obtain ⟨⟨h4, hG, q16, -⟩, -⟩ := id hS
  have h7 := hG.1.2
  have k79 := hS.2.2.2.2.2.1
  have e7 : (700 : Int32) * Int32.ofNat (moM R) = Int32.ofNat (700 * moM R) := by rw [Int32.ofNat_mul]; rfl
  have main : ∀ (d k : Nat), k + d = (moS R).1 → T (h + 2) mdX11_signalsNow 43 [(0, .ref 29), (1, .int (Int32.ofNat s)), (2, .int (Int32.ofNat (emR R ρ s k))), (3, .int (Int32.ofNat (700 * moM R + k)))] [] M Q := by
    intro d
    induction d with
    | zero =>
      intro k hk
      have ek : k = (moS R).1 := by omega
      refine VX11_signalsNow_43 (h := h + 1) ?_
      unfold DX11_signalsNow_43 DX11_signalsNow_126
      rw [hI.2.1, lt32 (show moM R < 2147483648 by omega), e7]
      refine ⟨ok29 F, 79, rf29_61 F, ok79 F, by rw [ln79 F]; exact vp_of h4 (by decide), ?_⟩
      rw [k79, add32, ek]
      refine ⟨fun _ => ⟨100, rf29_82 F, R_known (i := (5, s, 0)) (h := h) hS F hV (Or.inr (Or.inr ⟨rfl, hs, rfl⟩)) (emR_e (moS R).1).2.2 ?_ (fun M2 k2 _ => ⟨rfl, ?_⟩)⟩, fun z => absurd Int32.le_rfl z⟩
      · have q := hJ.1 (5, s, 0)
        rw [Fr_sg hs h0] at q
        exact q
      · rw [succ32]
        exact K M2 k2
    | succ d ih =>
      intro k hk
      have iz : inR R (700 * moM R + k) := ⟨by omega, by omega⟩
      have e80 : mAI M 80 (700 * moM R + k) = (moS R).2 80 (700 * moM R + k) := hS.2.1 80 _ (by decide) (by decide) iz
      have vz : ∀ {z : Nat}, z = 2800 → vp_in (Int32.ofNat (700 * moM R + k)) z := fun e => by rw [e]; exact vp_of (by omega) (by decide)
      have lz : (Int32.ofNat (700 * moM R + k)).toNatClampNeg = 700 * moM R + k := lt32 (by omega)
      have nx := ih (k + 1) (by omega)
      have er : emR R ρ s (k + 1) = if emK R s k then v3O (emR R ρ s k) (ρ (0, 700 * moM R + k, 0)) else emR R ρ s k := rfl
      rw [er] at nx
      refine VX11_signalsNow_43 (h := h + 1) ?_
      unfold DX11_signalsNow_43 DX11_signalsNow_110
      rw [hI.2.1, lt32 (show moM R < 2147483648 by omega), e7, lz, succ32, show 700 * moM R + k + 1 = 700 * moM R + (k + 1) by omega]
      refine ⟨ok29 F, 79, rf29_61 F, ok79 F, by rw [ln79 F]; exact vp_of h4 (by decide), ?_⟩
      rw [k79, add32]
      refine ⟨fun z => ?_, fun _ => ⟨80, rf29_62 F, ok80 F, vz (ln80 F), ?_⟩⟩
      · have := (le32 (by omega) (by omega)).mp z
        omega
      rw [e80]
      refine ⟨fun z => ?_, fun z => ?_⟩
      · rw [if_neg (fun q => z q.1)] at nx
        exact nx
      · obtain ⟨j, j1, j2⟩ := (hL _ iz).2.1 (Or.inr z)
        have e81 : mAI M 81 (700 * moM R + k) = Int32.ofNat (40 * moM R + j) := by rw [hS.2.1 81 _ (by decide) (by decide) iz]; exact j2
        have lj : (Int32.ofNat (40 * moM R + j)).toNatClampNeg = 40 * moM R + j := lt32 (by omega)
        have e60 : mAI M 60 (40 * moM R + j) = moA R 60 (40 * moM R + j) := hS.2.2.2.1 60 _ (by decide) (by decide) (by omega) (by omega)
        have ek : emK R s k ↔ moA R 60 (40 * moM R + j) = Int32.ofNat s := by
          have : moA R 60 ((moS R).2 81 (700 * moM R + k)).toNatClampNeg = moA R 60 (40 * moM R + j) := by rw [j2, lj]
          exact ⟨fun q => by rw [← this]; exact q.2, fun q => ⟨z, by rw [this]; exact q⟩⟩
        refine ⟨60, rf29_40 F, 81, rf29_63 F, ok81 F, vz (ln81 F), ok60 F, ?_⟩
        rw [e81, lj, e60, sub32 (show 700 * moM R ≤ 700 * moM R + k by omega) (by omega), lt32 (show 700 * moM R + k - 700 * moM R < 2147483648 by omega)]
        refine ⟨by rw [ln60 F]; exact vp_of (by omega) (by decide), fun q => ?_, fun q => ⟨95, rf29_77 F, ok95 F, by rw [ln95 F]; exact vp_of (by omega) (by decide), ?_⟩⟩
        · rw [if_neg (fun y => q (ek.mp y))] at nx
          exact nx
        · rw [if_pos (ek.mpr q)] at nx
          have g := hV.2.2.1 0 _ (by decide) iz
          have g : mAI M 95 (700 * moM R + k - 700 * moM R) = Int32.ofNat (ρ (0, 700 * moM R + k, 0)) := g
          rw [g]
          exact R_either (h := h) (emR_e k).2.2 (hV.1 _) (fun _ => ⟨_, rfl, nx⟩)
  exact main (moS R).1 0 (by omega)
theorem R_sigs (hS : RmS R sl M) (hI : RbI R I M) (hV : RSv R ρ M) (hL : NdL R) (hG : SgL R) (hN : InK R I ρ) (hJ : JF (FrR R I) ρ) (K : ∀ ρ' M', SvS R ρ M ρ' M' → JF (FrR R I) ρ' → (ρ' = ρ → ∀ s, s < moQ R → FrR R I ρ (5, s, 0) = ρ (5, s, 0)) → Q none M') : E (h + 2) mdX11_signalsNow [.ref 29] M Q := by
  obtain ⟨⟨h4, -, q16, -⟩, -⟩ := id hS
  have main : ∀ (d t : Nat) (ρ1 : Plc → Nat) (M1 : Mem), t + d = moQ R → SvS R ρ M ρ1 M1 → JF (FrR R I) ρ1 → (ρ1 = ρ → ∀ s, s < t → FrR R I ρ (5, s, 0) = ρ (5, s, 0)) → T (h + 2) mdX11_signalsNow 2 [(0, .ref 29), (1, .int (Int32.ofNat t))] [] M1 Q := by
    intro d
    induction d with
    | zero =>
      intro t ρ1 M1 ht k1 J1 x1
      have F1 := k1.1.fix hI.1
      have S1 := k1.rm hS
      have I1 := k1.1.bi hI
      have et : t = moQ R := by omega
      refine VX11_signalsNow_2 (h := h + 1) ?_
      unfold DX11_signalsNow_2
      rw [I1.2.1, lt32 (show moM R < 2147483648 by omega)]
      refine ⟨ok29 F1, 34, rf29_8 F1, ok34 F1, by rw [ln34 F1]; exact vp_of h4 (by decide), ?_⟩
      rw [S1.2.2.2.2.2.2.2.2.2.1, et]
      exact ⟨fun _ => K ρ1 M1 k1 J1 (fun e s hs => x1 e s (by omega)), fun z => absurd Int32.le_rfl z⟩
    | succ d ih =>
      intro t ρ1 M1 ht k1 J1 x1
      have F1 := k1.1.fix hI.1
      have S1 := k1.rm hS
      have I1 := k1.1.bi hI
      have N1 := hN.lq k1.2.2.1
      have tq : t < moQ R := by omega
      obtain ⟨u, u5, eu⟩ := hG t tq
      have e38 : mAI M1 38 (16 * moM R + t) = Int32.ofNat u := by rw [S1.2.2.2.2.2.2.2.2.2.2 t tq]; exact eu
      have e16 : (16 : Int32) * Int32.ofNat (moM R) + Int32.ofNat t = Int32.ofNat (16 * moM R + t) := by rw [Int32.ofNat_add, Int32.ofNat_mul]; rfl
      have e7 : (700 : Int32) * Int32.ofNat (moM R) = Int32.ofNat (700 * moM R) := by rw [Int32.ofNat_mul]; rfl
      refine VX11_signalsNow_2 (h := h + 1) ?_
      unfold DX11_signalsNow_2 DX11_signalsNow_126
      rw [I1.2.1, lt32 (show moM R < 2147483648 by omega), e16, lt32 (show 16 * moM R + t < 2147483648 by omega), e7]
      refine ⟨ok29 F1, 34, rf29_8 F1, ok34 F1, by rw [ln34 F1]; exact vp_of h4 (by decide), ?_⟩
      rw [S1.2.2.2.2.2.2.2.2.2.1]
      refine ⟨fun z => ?_, fun _ => ⟨38, rf29_12 F1, ok38 F1, by rw [ln38 F1]; exact vp_of (by omega) (by decide), ?_⟩⟩
      · have := (le32 (by omega) (by omega)).mp z
        omega
      rw [e38]
      have u0 : (Int32.ofNat u ≤ 0) ↔ u = 0 := ⟨fun z => by have := (le32 (a := u) (b := 0) (by omega) (by decide)).mp z; omega, fun z => by rw [z]; exact Int32.le_rfl⟩
      rw [u0]
      refine ⟨fun z => ?_, fun z => ?_⟩
      · rw [succ32]
        have t0 : moT R t = 0 := by rw [eu, z]; rfl
        refine ih (t + 1) ρ1 M1 (by omega) k1 J1 (fun e s hs => ?_)
        by_cases y : s = t
        · rw [y, Fr_in tq t0]
          exact (hN t tq t0).1.symm
        · exact x1 e s (by omega)
      · have t0 : moT R t ≠ 0 := fun e => by
          rw [eu] at e
          exact z (inj32 (a := u) (b := 0) (by omega) (by decide) e)
        refine R_sg1 (h := h) S1 I1 k1.2.1 hL tq t0 J1 (fun M2 k2 => ?_)
        have J2 := J1.up (v' := upP ρ1 (5, t, 0) (emR R ρ1 t (moS R).1)) FrR_mo (fun i => by
          unfold upP
          by_cases z : i = (5, t, 0)
          · rw [if_pos z, z]; exact Or.inr (Fr_sg tq t0).symm
          · rw [if_neg z]; exact Or.inl rfl)
        refine ih (t + 1) _ M2 (by omega) (k1.tr k2) J2.1 (fun e s hs => ?_)
        -- nothing has changed
        have e1 : ρ1 = ρ := by
          funext i
          have a := k1.2.2.1 i
          have b := J2.2 i
          rw [e] at b
          exact b.an a
        by_cases y : s = t
        · have q := congrFun e (5, t, 0)
          unfold upP at q
          rw [if_pos rfl, e1] at q
          rw [y, Fr_sg tq t0]
          exact q
        · exact x1 e1 s (by omega)
  refine KX11_signalsNow (h := h + 1) ?_
  unfold DX11_signalsNow_0
  exact main (moQ R) 0 ρ M (by omega) (SvS.rf hV) hJ (fun _ s hs => absurd hs (Nat.not_lt_zero _))
end
end
section
/-! the reference solves: one sweep -/
section
variable {R : RMo} {I : RIn} {sl : List Nat} {ρ : Plc → Nat} {M M1 M' : Mem} {h y n : Nat} {Q : Option Value → Mem → Prop} {x1 x2 : Int32}
theorem cd_le (h2 : ∀ j, ρ j ≤ 2) : cdR R I ρ y n ≤ 2 := by
  have al : ∀ i, alF R I ρ y n i ≤ 2 := fun i => by
    cases i with
    | zero => exact oI_le _
    | succ i => exact v3A_le _ _
  unfold cdR
  by_cases k2 : (moS R).2 80 y = 2
  · rw [if_pos k2]
    by_cases a : n = 1
    · rw [if_pos a]; exact h2 _
    rw [if_neg a]
    by_cases b : n = 0
    · rw [if_pos b]; exact v3A_le _ _
    · rw [if_neg b]; decide
  rw [if_neg k2]
  by_cases k3 : (moS R).2 80 y = 3
  · rw [if_pos k3]
    by_cases a : Int32.ofNat n = moN R y
    · rw [if_pos a]; exact h2 _
    · rw [if_neg a]; decide
  rw [if_neg k3]
  by_cases k4 : (moS R).2 80 y = 4 ∨ (moS R).2 80 y = 5
  · rw [if_pos k4]
    by_cases a : n = 0 ∧ (moS R).2 84 ((moG R y).getD 0 0) = -1
    · rw [if_pos a]; exact v3O_le _ _
    · rw [if_neg a]; exact oI_le _
  rw [if_neg k4]
  by_cases k6 : (moS R).2 80 y = 6
  · rw [if_pos k6]
    by_cases a : n = 0
    · rw [if_pos a]; exact h2 _
    · rw [if_neg a]; exact oI_le _
  rw [if_neg k6]
  by_cases k7 : (moS R).2 80 y = 7
  · rw [if_pos k7]
    by_cases a : n = 0
    · rw [if_pos a]; decide
    · rw [if_neg a]; exact h2 _
  rw [if_neg k7]
  by_cases k8 : (moS R).2 80 y = 8
  · rw [if_pos k8]
    by_cases a : n = 1
    · rw [if_pos a]; exact v3O_le _ _
    · rw [if_neg a]; exact h2 _
  rw [if_neg k8]
  by_cases k9 : (moS R).2 80 y = 9
  · rw [if_pos k9]; exact al _
  rw [if_neg k9]
  by_cases k10 : (moS R).2 80 y = 10
  · rw [if_pos k10]
    by_cases a : n = 0
    · rw [if_pos a]; exact v3O_le _ _
    rw [if_neg a]
    by_cases b : n = 1
    · rw [if_pos b]; exact h2 _
    rw [if_neg b]
    by_cases c : n + 1 < moC R
    · rw [if_pos c]; exact h2 _
    · rw [if_neg c]; decide
  rw [if_neg k10]
  by_cases a : n = 0
  · rw [if_pos a]; exact h2 _
  · rw [if_neg a]; decide
theorem Fr_cd (hy : inR R y) (hn : n < moC R) : FrR R I ρ (4, y, n) = cdR R I ρ y n := by
  show FrA R I ρ 4 y n = _
  unfold FrA
  rw [if_neg (by decide), if_pos rfl, if_pos ⟨hy, hn⟩]
/-- all codes of a node -/
theorem R_cds (hS : RmS R sl M) (hI : RbI R I M) (hb : ∀ s, iBf I s ≤ 1) (hV : RSv R ρ M) (hL : NdL R) (hy : inR R y) (hJ : JF (FrR R I) ρ) (K : ∀ ρ' M', SvS R ρ M ρ' M' → JF (FrR R I) ρ' → (ρ' = ρ → ∀ n, n < moC R → FrR R I ρ (4, y, n) = ρ (4, y, n)) → T (h + 5) mdX11_solve 199 [(0, .ref 29), (1, .int x1), (2, .int (x2 + 1))] [] M' Q) : T (h + 5) mdX11_solve 251 [(0, .ref 29), (1, .int x1), (2, .int x2), (4, .int (Int32.ofNat y)), (5, .int 0)] [] M Q := by
  obtain ⟨⟨h4, -, -, c3, c20, -⟩, -⟩ := id hS
  obtain ⟨b1, b2, b3⟩ := hy.b hS
  have main : ∀ (d n : Nat) (ρ1 : Plc → Nat) (M1 : Mem), n + d = moC R → SvS R ρ M ρ1 M1 → JF (FrR R I) ρ1 → (ρ1 = ρ → ∀ k, k < n → FrR R I ρ (4, y, k) = ρ (4, y, k)) → T (h + 5) mdX11_solve 251 [(0, .ref 29), (1, .int x1), (2, .int x2), (4, .int (Int32.ofNat y)), (5, .int (Int32.ofNat n))] [] M1 Q := by
    intro d
    induction d with
    | zero =>
      intro n ρ1 M1 hn k1 J1 f1
      have F1 := k1.1.fix hI.1
      have S1 := k1.rm hS
      have I1 := k1.1.bi hI
      refine VX11_solve_251 (h := h + 4) ?_
      unfold DX11_solve_251 DX11_solve_304
      rw [I1.2.1, lt32 (show moM R < 2147483648 by omega)]
      refine ⟨ok29 F1, 92, rf29_74 F1, ok92 F1, by rw [ln92 F1]; exact vp_of h4 (by decide), ?_⟩
      rw [S1.2.2.2.2.2.2.1, show n = moC R by omega]
      exact ⟨fun _ => K ρ1 M1 k1 J1 (fun e k hk => f1 e k (by omega)), fun z => absurd Int32.le_rfl z⟩
    | succ d ih =>
      intro n ρ1 M1 hn k1 J1 f1
      have F1 := k1.1.fix hI.1
      have S1 := k1.rm hS
      have I1 := k1.1.bi hI
      have nk : n < moC R := by omega
      refine VX11_solve_251 (h := h + 4) ?_
      unfold DX11_solve_251
      rw [I1.2.1, lt32 (show moM R < 2147483648 by omega), ix700 b3 (by omega), ix24]
      refine ⟨ok29 F1, 92, rf29_74 F1, ok92 F1, by rw [ln92 F1]; exact vp_of h4 (by decide), ?_⟩
      rw [S1.2.2.2.2.2.2.1]
      refine ⟨fun z => ?_, fun _ => ⟨99, rf29_81 F1, R_codeV (h := h) S1 I1 hb k1.2.1 hL hy nk (fun M5 A5 _ => ⟨_, rfl, ?_⟩)⟩⟩
      · have := (le32 (by omega) (by omega)).mp z
        omega
      have k5 : SvS R ρ1 M1 ρ1 M5 := SvS.ar k1.2.1 A5
      have F5 := k5.1.fix F1
      have lq : lq3 (ρ1 (4, y, n)) (cdR R I ρ1 y n) := by
        have q := J1.1 (4, y, n)
        rw [Fr_cd hy nk] at q
        exact q
      refine R_known (i := (4, y, n)) (h := h + 3) (k5.rm S1) F5 k5.2.1 (Or.inr (Or.inl ⟨rfl, hy, nk⟩)) (cd_le k1.2.1.1) lq (fun M7 k7 _ => ⟨rfl, ?_⟩)
      have J7 := J1.up (v' := upP ρ1 (4, y, n) (cdR R I ρ1 y n)) FrR_mo (fun i => by
        unfold upP
        by_cases z : i = (4, y, n)
        · rw [if_pos z, z]; exact Or.inr (Fr_cd hy nk).symm
        · rw [if_neg z]; exact Or.inl rfl)
      rw [succ32]
      refine ih (n + 1) _ M7 (by omega) ((k1.tr k5).tr k7) J7.1 (fun e k hk => ?_)
      have e1 : ρ1 = ρ := by
        funext i
        have a := k1.2.2.1 i
        have b := J7.2 i
        rw [e] at b
        exact b.an a
      by_cases z : k = n
      · have q := congrFun e (4, y, n)
        unfold upP at q
        rw [if_pos rfl, e1] at q
        rw [z, Fr_cd hy nk]
        exact q
      · exact f1 e1 k (by omega)
  exact main (moC R) 0 ρ M (by omega) (SvS.rf hV) hJ (fun _ k hk => absurd hk (Nat.not_lt_zero _))
theorem sar1 {a : Nat} (h : a < 1048576) : Int32.ofNat a >>> ((1 : Int32) &&& 31) = Int32.ofNat (a / 2) := by
  have hc : cbI (Int32.ofNat a) := by
    unfold cbI
    rw [Int32.toBitVec_ofNat', BitVec.toNat_ofNat, Nat.mod_eq_of_lt (by omega)]
    exact h
  have e1 : Int32.ofNat a >>> ((1 : Int32) &&& 31) = us1 (Int32.ofNat a) := Int32.toBitVec_inj.mp (by rw [us1_b]; exact shr_b (k := 1) (by decide) hc)
  rw [e1, us1_of (by omega)]
/-- the steps: every node is entered once and left once -/
def StL (R : RMo) (sl : List Nat) : Prop := (∀ s ∈ sl, ∃ z, inR R z ∧ (s = 2 * z ∨ s = 2 * z + 1)) ∧ (∀ z, inR R z → 2 * z ∈ sl ∧ 2 * z + 1 ∈ sl) ∧ sl.length ≤ 1400
theorem R_sweep (hS : RmS R sl M) (hI : RbI R I M) (hb : ∀ s, iBf I s ≤ 1) (hV : RSv R ρ M) (hL : NdL R) (hM : EmL R) (hG : SgL R) (hN : InK R I ρ) (hT : StL R sl) (hJ : JF (FrR R I) ρ) (K : ∀ ρ' M', SvS R ρ M ρ' M' → JF (FrR R I) ρ' → (ρ' = ρ → ∀ i, FrR R I ρ i = ρ i) → T (h + 5) mdX11_solve 185 [(0, .ref 29), (1, .int x1)] [] M' Q) : T (h + 5) mdX11_solve 199 [(0, .ref 29), (1, .int x1), (2, .int 0)] [] M Q := by
  obtain ⟨⟨h4, hGG, q16, c3, c20, -⟩, -⟩ := id hS
  have h7 := hGG.1.2
  obtain ⟨t1, t2, t3⟩ := hT
  -- what step s settles
  have main : ∀ (d i : Nat) (ρ1 : Plc → Nat) (M1 : Mem), i + d = sl.length → SvS R ρ M ρ1 M1 → JF (FrR R I) ρ1 → (ρ1 = ρ → ∀ k z, k < i → inR R z → (sl.getD k 0 = 2 * z → ∀ c, c ≤ 3 → FrR R I ρ (c, z, 0) = ρ (c, z, 0)) ∧ (sl.getD k 0 = 2 * z + 1 → ∀ n, n < moC R → FrR R I ρ (4, z, n) = ρ (4, z, n))) → T (h + 5) mdX11_solve 199 [(0, .ref 29), (1, .int x1), (2, .int (Int32.ofNat i))] [] M1 Q := by
    intro d
    induction d with
    | zero =>
      intro i ρ1 M1 hi k1 J1 f1
      have ei : i = sl.length := by omega
      have F1 := k1.1.fix hI.1
      have S1 := k1.rm hS
      have I1 := k1.1.bi hI
      have N1 := hN.lq k1.2.2.1
      refine VX11_solve_199 (h := h + 4) ?_
      unfold DX11_solve_199
      rw [I1.2.1, lt32 (show moM R < 2147483648 by omega)]
      refine ⟨ok29 F1, 94, rf29_76 F1, ok94 F1, by rw [ln94 F1]; exact vp_of h4 (by decide), ?_⟩
      rw [S1.2.2.2.2.2.2.2.1, ei]
      refine ⟨fun _ => R_sigs (h := h + 2) S1 I1 k1.2.1 hL hG N1 J1 (fun ρ2 M2 k2 J2 f2 _ => ⟨rfl, K ρ2 M2 (k1.tr k2) J2 (fun e => ?_)⟩), fun z => absurd Int32.le_rfl z⟩
      have e1 : ρ1 = ρ := by
        funext j
        have a := k1.2.2.1 j
        have b := k2.2.2.1 j
        rw [e] at b
        exact b.an a
      have e2 : ρ2 = ρ1 := e.trans e1.symm
      have f2 := f2 e2
      rw [e1] at f2
      have f1 := f1 e1
      intro j
      obtain ⟨c, z, n⟩ := j
      have ix : ∀ {v : Nat}, v ∈ sl → ∃ k, k < i ∧ sl.getD k 0 = v := fun {v} hv => by
        obtain ⟨k, kl, ke⟩ := List.mem_iff_getElem.mp hv
        exact ⟨k, by omega, by rw [gd_el kl]; exact ke⟩
      by_cases p : plR R (c, z, n)
      · rcases p with ⟨c3, iz, n0⟩ | ⟨c4, iz, nk⟩ | ⟨c5, zs, n0⟩
        · have n0 : n = 0 := n0
          obtain ⟨k, k1', k2'⟩ := ix (t2 z iz).1
          rw [n0]
          exact (f1 k z k1' iz).1 k2' c c3
        · have c4 : c = 4 := c4
          obtain ⟨k, k1', k2'⟩ := ix (t2 z iz).2
          rw [c4]
          exact (f1 k z k1' iz).2 k2' n nk
        · have c5 : c = 5 := c5
          have n0 : n = 0 := n0
          rw [c5, n0]
          exact f2 z zs
      · rw [hV.2.1 _ p]
        show FrA R I ρ c z n = 2
        unfold FrA
        by_cases c3 : c ≤ 3
        · rw [if_pos c3, if_neg (fun q => p (Or.inl ⟨c3, q.1, q.2⟩))]
        rw [if_neg c3]
        by_cases c4 : c = 4
        · rw [if_pos c4, if_neg (fun q => p (Or.inr (Or.inl ⟨c4, q.1, q.2⟩)))]
        · rw [if_neg c4, if_neg (fun q => p (Or.inr (Or.inr ⟨q.1, q.2.1, q.2.2⟩)))]
    | succ d ih =>
      intro i ρ1 M1 hi k1 J1 f1
      have il : i < sl.length := by omega
      have F1 := k1.1.fix hI.1
      have S1 := k1.rm hS
      have I1 := k1.1.bi hI
      obtain ⟨z, iz, ez⟩ := t1 (sl.getD i 0) (by rw [gd_el il]; exact List.getElem_mem il)
      obtain ⟨b1, b2, b3⟩ := iz.b hS
      have e93 : mAI M1 93 (1400 * moM R + i) = Int32.ofNat (sl.getD i 0) := S1.2.2.2.2.2.2.2.2.1 i il
      have e14 : (1400 : Int32) * Int32.ofNat (moM R) + Int32.ofNat i = Int32.ofNat (1400 * moM R + i) := by rw [Int32.ofNat_add, Int32.ofNat_mul]; rfl
      have sb : sl.getD i 0 < 6000 := by omega
      refine VX11_solve_199 (h := h + 4) ?_
      unfold DX11_solve_199 DX11_solve_304
      rw [I1.2.1, lt32 (show moM R < 2147483648 by omega), e14, lt32 (show 1400 * moM R + i < 2147483648 by omega)]
      refine ⟨ok29 F1, 94, rf29_76 F1, ok94 F1, by rw [ln94 F1]; exact vp_of h4 (by decide), ?_⟩
      rw [S1.2.2.2.2.2.2.2.1]
      refine ⟨fun q => ?_, fun _ => ⟨93, rf29_75 F1, ok93 F1, by rw [ln93 F1]; exact vp_of (by omega) (by decide), ?_⟩⟩
      · have := (le32 (by omega) (by omega)).mp q
        omega
      rw [e93, sar1 (by omega), par32 (by omega), succ32]
      have uniq : ∀ {z' : Nat}, sl.getD i 0 / 2 = z' → z' = z := fun e => by omega
      rw [show sl.getD i 0 / 2 = z by omega]
      refine ⟨fun q => ?_, fun q => ?_⟩
      · refine R_cds (x2 := Int32.ofNat i) (h := h) S1 I1 hb k1.2.1 hL iz J1 (fun ρ2 M2 k2 J2 f2 => ?_)
        rw [succ32]
        refine ih (i + 1) ρ2 M2 (by omega) (k1.tr k2) J2 (fun e k z' hk iz' => ?_)
        have e1 : ρ1 = ρ := by
          funext j
          have a := k1.2.2.1 j
          have b := k2.2.2.1 j
          rw [e] at b
          exact b.an a
        by_cases y : k = i
        · rw [y]
          refine ⟨fun e0 => absurd (show sl.getD i 0 % 2 = 0 by omega) q, fun e0 => ?_⟩
          have ezz : z' = z := by omega
          rw [ezz]
          have f2 := f2 (e.trans e1.symm)
          rw [e1] at f2
          exact f2
        · exact f1 e1 k z' (by omega) iz'
      · refine R_enter (h := h) S1 I1 hb k1.2.1 hL hM iz J1 (fun ρ2 M2 k2 J2 f2 _ => ⟨rfl, ?_⟩)
        refine ih (i + 1) ρ2 M2 (by omega) (k1.tr k2) J2 (fun e k z' hk iz' => ?_)
        have e1 : ρ1 = ρ := by
          funext j
          have a := k1.2.2.1 j
          have b := k2.2.2.1 j
          rw [e] at b
          exact b.an a
        by_cases y : k = i
        · rw [y]
          refine ⟨fun e0 => ?_, fun e0 => absurd q (show ¬ sl.getD i 0 % 2 = 0 by omega)⟩
          have ezz : z' = z := by omega
          rw [ezz]
          have f2 := f2 (e.trans e1.symm)
          rw [e1] at f2
          exact f2
        · exact f1 e1 k z' (by omega) iz'
  exact main sl.length 0 ρ M (by omega) (SvS.rf hV) hJ (fun _ k z hk => absurd hk (Nat.not_lt_zero _))
end
end
section
/-! the reference solves, whole -/
def PLs (R : RMo) : List Plc := ((List.range (moS R).1).flatMap (fun k => (List.range 4).map (fun c => (c, 700 * moM R + k, 0)) ++ (List.range (moC R)).map (fun n => (4, 700 * moM R + k, n)))) ++ (List.range (moQ R)).map (fun s => (5, s, 0))
/-- the inputs of the module, and what is given -/
def InL (R : RMo) (I : RIn) (il : List Nat) (M : Mem) : Prop := (mAI M 35 (moM R) = Int32.ofNat il.length ∧ il.length ≤ 4) ∧ (∀ j, j < il.length → mAI M 41 (4 * moM R + j) = Int32.ofNat (il.getD j 0)) ∧ (∀ j k, j < il.length → k < il.length → il.getD j 0 = il.getD k 0 → j = k) ∧ (∀ j, j < il.length → il.getD j 0 < moQ R ∧ moT R (il.getD j 0) = 0) ∧ (∀ s, s < moQ R → moT R s = 0 → ∃ j, j < il.length ∧ il.getD j 0 = s) ∧ ∀ j, j < il.length → ((mI M 29 87) >>> (Int32.ofNat j &&& 31)) &&& 1 = Int32.ofNat (iGv I (il.getD j 0)) ∧ iGv I (il.getD j 0) ≤ 1
def rho0 (R : RMo) (I : RIn) : Plc → Nat := fun i => if i.1 = 5 ∧ i.2.1 < moQ R ∧ i.2.2 = 0 ∧ moT R i.2.1 = 0 then iGv I i.2.1 else 2
section
variable {R : RMo} {I : RIn} {sl il : List Nat} {ρ : Plc → Nat} {M M1 M' : Mem} {h : Nat} {Q : Option Value → Mem → Prop} {x1 : Int32}
theorem PLs_in {i : Plc} (hi : plR R i) : i ∈ PLs R := by
  obtain ⟨c, z, n⟩ := i
  unfold PLs
  rcases hi with ⟨c3, iz, n0⟩ | ⟨c4, iz, nk⟩ | ⟨c5, zs, n0⟩
  · have c3 : c ≤ 3 := c3
    have n0 : n = 0 := n0
    obtain ⟨i1, i2⟩ := iz
    have i1 : 700 * moM R ≤ z := i1
    have i2 : z < 700 * moM R + (moS R).1 := i2
    refine List.mem_append.mpr (Or.inl (List.mem_flatMap.mpr ⟨z - 700 * moM R, List.mem_range.mpr (by omega), List.mem_append.mpr (Or.inl (List.mem_map.mpr ⟨c, List.mem_range.mpr (by omega), ?_⟩))⟩))
    rw [n0, show 700 * moM R + (z - 700 * moM R) = z by omega]
  · have c4 : c = 4 := c4
    obtain ⟨i1, i2⟩ := iz
    have i1 : 700 * moM R ≤ z := i1
    have i2 : z < 700 * moM R + (moS R).1 := i2
    refine List.mem_append.mpr (Or.inl (List.mem_flatMap.mpr ⟨z - 700 * moM R, List.mem_range.mpr (by omega), List.mem_append.mpr (Or.inr (List.mem_map.mpr ⟨n, List.mem_range.mpr nk, ?_⟩))⟩))
    rw [c4, show 700 * moM R + (z - 700 * moM R) = z by omega]
  · have c5 : c = 5 := c5
    have n0 : n = 0 := n0
    refine List.mem_append.mpr (Or.inr (List.mem_map.mpr ⟨z, List.mem_range.mpr zs, ?_⟩))
    rw [c5, n0]
theorem R_loop (hI : RbI R I M) (hb : ∀ s, iBf I s ≤ 1) (hS : RmS R sl M) (hL : NdL R) (hM : EmL R) (hG : SgL R) (hT : StL R sl) (K : ∀ ρ' M', RbF M M' → RSv R ρ' M' → JF (FrR R I) ρ' → (∀ i, FrR R I ρ' i = ρ' i) → T (h + 5) mdX11_solve 321 [(0, .ref 29), (1, .int x1), (2, .int 1), (3, .int 0)] [] M' Q) : ∀ (b : Nat) (ρ : Plc → Nat) (M1 : Mem), muU ρ (PLs R) < b → RbF M M1 → RSv R ρ M1 → InK R I ρ → JF (FrR R I) ρ → mI M1 29 83 = 1 → T (h + 5) mdX11_solve 185 [(0, .ref 29), (1, .int x1)] [] M1 Q := by
  intro b
  induction b with
  | zero => intro ρ M1 hb; exact absurd hb (Nat.not_lt_zero _)
  | succ b ih =>
    intro ρ M1 hmu k1 V1 N1 J1 f1
    have F1 := k1.fix hI.1
    refine VX11_solve_185 (h := h + 4) ?_
    unfold DX11_solve_185
    rw [f1]
    refine ⟨ok29 F1, fun z => absurd z (by decide), fun _ => ⟨Or.inl rfl, fun M2 e2 => ?_⟩⟩
    have k2 : RbF M1 M2 := RbF.wi e2
    have k12 := k1.tr k2
    have V2 : RSv R ρ M2 := V1.rm (fun c _ _ => by rw [e2]; rfl)
    refine R_sweep (h := h) (k12.rm hS) (k12.bi hI) hb V2 hL hM hG N1 hT J1 (fun ρ3 M3 k3 J3 x3 => ?_)
    have F3 := k3.1.fix (k12.fix hI.1)
    rcases k3.2.2.2 with ⟨q1, q2⟩ | ⟨q1, i, q2, q3⟩
    · refine VX11_solve_185 (h := h + 4) ?_
      unfold DX11_solve_185
      have z83 : mI M3 29 83 = 0 := by rw [q1, e2]; exact mI_own _ _ _ _
      refine ⟨ok29 F3, fun _ => K ρ3 M3 (k12.tr k3.1) k3.2.1 J3 (fun i => by rw [q2]; exact x3 q2 i), fun z => absurd z83 z⟩
    · have lt := muU_lt k3.2.2.1 (PLs R) i (PLs_in q2) q3
      exact ih ρ3 M3 (by omega) (k12.tr k3.1) k3.2.1 (N1.lq k3.2.2.1) J3 q1
/-- is all known -/
theorem R_321 (hI : RbI R I M) (hS : RmS R sl M) (hV : RSv R ρ M) (K : ∀ b : Int32, (b = 1 ∧ KnR R ρ) ∨ (b = 0 ∧ ¬ KnR R ρ) → Q (some (.int b)) M) : T (h + 5) mdX11_solve 321 [(0, .ref 29), (1, .int (Int32.ofNat (moS R).1)), (2, .int 1), (3, .int 0)] [] M Q := by
  have F := hI.1
  obtain ⟨⟨h4, hGG, q16, c3, c20, -⟩, -⟩ := id hS
  have h7 := hGG.1.2
  have k92 := hS.2.2.2.2.2.2.1
  have le2 : ∀ i, ((2 : Int32) ≤ Int32.ofNat (ρ i)) ↔ ρ i = 2 := fun i => by
    have := hV.1 i
    rw [show (2 : Int32) = Int32.ofNat 2 from rfl, le32 (by decide) (by omega)]
    omega
  have main : ∀ (d n : Nat) (b : Int32), n + d = (moS R).1 → ((b = 1 ∧ ∀ y, 700 * moM R ≤ y → y < 700 * moM R + n → (∀ q, q ≤ 3 → ρ (q, y, 0) ≠ 2) ∧ ∀ k, k < moC R → ρ (4, y, k) ≠ 2) ∨ (b = 0 ∧ ¬ KnR R ρ)) → T (h + 5) mdX11_solve 321 [(0, .ref 29), (1, .int (Int32.ofNat (moS R).1)), (2, .int b), (3, .int (Int32.ofNat n))] [] M Q := by
    intro d
    induction d with
    | zero =>
      intro n b hn hb
      refine VX11_solve_321 (h := h + 4) ?_
      unfold DX11_solve_321
      rw [show n = (moS R).1 by omega]
      refine ⟨fun _ => ⟨?_, K b ?_⟩, fun z => absurd Int32.le_rfl z⟩
      · rcases hb with q | q
        · exact Or.inr q.1
        · exact Or.inl q.1
      · rcases hb with ⟨q1, q2⟩ | q
        · exact Or.inl ⟨q1, fun y iy => q2 y iy.1 (by have := iy.2; omega)⟩
        · exact Or.inr q
    | succ d ih =>
      intro n b hn hb
      have iy : inR R (700 * moM R + n) := ⟨by omega, by omega⟩
      have ey : 700 * moM R + n - 700 * moM R = n := by omega
      have g : ∀ c, c ≤ 3 → mAI M (95 + c) n = Int32.ofNat (ρ (c, 700 * moM R + n, 0)) := fun c hc => by
        have q := hV.2.2.1 c _ hc iy
        rw [ey] at q
        exact q
      have gk : ∀ k, k < moC R → mAI M 99 (24 * n + k) = Int32.ofNat (ρ (4, 700 * moM R + n, k)) := fun k hk => by
        have q := hV.2.2.2.1 _ k iy hk
        rw [ey] at q
        exact q
      have ln : (Int32.ofNat n).toNatClampNeg = n := lt32 (by omega)
      have v70 : ∀ {z : Nat}, z = 700 → vp_in (Int32.ofNat n) z := fun e => by rw [e]; exact vp_of (by omega) (by decide)
      have nl : ¬ Int32.ofNat (moS R).1 ≤ Int32.ofNat n := fun z => by
        have := (le32 (by omega) (by omega)).mp z
        omega
      -- not all is known
      have bad : ¬ KnR R ρ → ∀ c, c < moC R + 1 → T (h + 5) mdX11_solve 379 [(0, .ref 29), (1, .int (Int32.ofNat (moS R).1)), (2, .int 0), (3, .int (Int32.ofNat n)), (4, .int (Int32.ofNat c))] [] M Q := fun nk c hc => by
        refine VX11_solve_379 (h := h + 4) ?_
        unfold DX11_solve_379 DX11_solve_425
        rw [hI.2.1, lt32 (show moM R < 2147483648 by omega), succ32]
        have q := ih (n + 1) 0 (by omega) (Or.inr ⟨rfl, nk⟩)
        exact ⟨ok29 F, 92, rf29_74 F, ok92 F, by rw [ln92 F]; exact vp_of h4 (by decide), fun _ => q, fun _ => ⟨fun _ => q, fun z => absurd rfl z⟩⟩
      have unk : ∀ {q : Nat}, q ≤ 3 → ρ (q, 700 * moM R + n, 0) = 2 → ¬ KnR R ρ := fun hq e k => (k _ iy).1 _ hq e
      -- codes
      have cod : (∀ q, q ≤ 3 → ρ (q, 700 * moM R + n, 0) ≠ 2) → (∀ y, 700 * moM R ≤ y → y < 700 * moM R + n → (∀ q, q ≤ 3 → ρ (q, y, 0) ≠ 2) ∧ ∀ k, k < moC R → ρ (4, y, k) ≠ 2) → ∀ (e c : Nat), c + e = moC R → (∀ k, k < c → ρ (4, 700 * moM R + n, k) ≠ 2) → T (h + 5) mdX11_solve 379 [(0, .ref 29), (1, .int (Int32.ofNat (moS R).1)), (2, .int 1), (3, .int (Int32.ofNat n)), (4, .int (Int32.ofNat c))] [] M Q := by
        intro w0 w1 e
        induction e with
        | zero =>
          intro c hc hk
          refine VX11_solve_379 (h := h + 4) ?_
          unfold DX11_solve_379 DX11_solve_425
          rw [hI.2.1, lt32 (show moM R < 2147483648 by omega), succ32]
          refine ⟨ok29 F, 92, rf29_74 F, ok92 F, by rw [ln92 F]; exact vp_of h4 (by decide), ?_⟩
          rw [k92, show c = moC R by omega]
          refine ⟨fun _ => ih (n + 1) 1 (by omega) (Or.inl ⟨rfl, fun y y1 y2 => ?_⟩), fun z => absurd Int32.le_rfl z⟩
          by_cases z : y = 700 * moM R + n
          · rw [z]; exact ⟨w0, fun k hk' => hk k (by omega)⟩
          · exact w1 y y1 (by omega)
        | succ e ihe =>
          intro c hc hk
          refine VX11_solve_379 (h := h + 4) ?_
          unfold DX11_solve_379 DX11_solve_418
          rw [hI.2.1, lt32 (show moM R < 2147483648 by omega), ix24, lt32 (show 24 * n + c < 2147483648 by omega), succ32]
          refine ⟨ok29 F, 92, rf29_74 F, ok92 F, by rw [ln92 F]; exact vp_of h4 (by decide), ?_⟩
          rw [k92]
          refine ⟨fun z => ?_, fun _ => ⟨fun z => absurd z (by decide), fun _ => ⟨99, rf29_81 F, ok99 F, by rw [ln99 F]; exact vp_of (by omega) (by decide), ?_⟩⟩⟩
          · have := (le32 (by omega) (by omega)).mp z
            omega
          rw [gk c (by omega), le2]
          refine ⟨fun z => bad (fun k => (k _ iy).2 c (by omega) z) (c + 1) (by omega), fun z => ihe (c + 1) (by omega) (fun k hk' => ?_)⟩
          by_cases y : k = c
          · rw [y]; exact z
          · exact hk k (by omega)
      refine VX11_solve_321 (h := h + 4) ?_
      unfold DX11_solve_321 DX11_solve_374 DX11_solve_375
      rw [ln]
      refine ⟨fun z => absurd z nl, fun _ => ⟨fun z => ?_, fun z => ⟨ok29 F, 95, rf29_77 F, ok95 F, v70 (ln95 F), ?_⟩⟩⟩
      · rcases hb with ⟨q1, -⟩ | ⟨-, q2⟩
        · rw [q1] at z; exact absurd z (by decide)
        · exact bad q2 0 (by omega)
      have w1 : ∀ y, 700 * moM R ≤ y → y < 700 * moM R + n → (∀ q, q ≤ 3 → ρ (q, y, 0) ≠ 2) ∧ ∀ k, k < moC R → ρ (4, y, k) ≠ 2 := by
        rcases hb with ⟨-, q2⟩ | ⟨q1, -⟩
        · exact q2
        · exact absurd q1 z
      have g0 : mAI M 95 n = Int32.ofNat (ρ (0, 700 * moM R + n, 0)) := g 0 (by decide)
      have g1 : mAI M 96 n = Int32.ofNat (ρ (1, 700 * moM R + n, 0)) := g 1 (by decide)
      have g2 : mAI M 97 n = Int32.ofNat (ρ (2, 700 * moM R + n, 0)) := g 2 (by decide)
      have g3 : mAI M 98 n = Int32.ofNat (ρ (3, 700 * moM R + n, 0)) := g 3 (by decide)
      rw [g0, le2]
      refine ⟨fun y => bad (unk (by decide) y) 0 (by omega), fun y0 => ⟨96, rf29_78 F, ok96 F, v70 (ln96 F), ?_⟩⟩
      rw [g1, le2]
      refine ⟨fun y => bad (unk (by decide) y) 0 (by omega), fun y1 => ⟨97, rf29_79 F, ok97 F, v70 (ln97 F), ?_⟩⟩
      rw [g2, le2]
      refine ⟨fun y => bad (unk (by decide) y) 0 (by omega), fun y2 => ⟨98, rf29_80 F, ok98 F, v70 (ln98 F), ?_⟩⟩
      rw [g3, le2]
      refine ⟨fun y => bad (unk (by decide) y) 0 (by omega), fun y3 => cod (fun q hq => ?_) w1 (moC R) 0 (by omega) (fun k hk => absurd hk (Nat.not_lt_zero _))⟩
      have : q = 0 ∨ q = 1 ∨ q = 2 ∨ q = 3 := by omega
      rcases this with e | e | e | e <;> rw [e]
      · exact y0
      · exact y1
      · exact y2
      · exact y3
  exact main (moS R).1 0 1 (by omega) (Or.inl ⟨rfl, fun y y1 y2 => by omega⟩)
end
end
section
/-! the reference solves: its beginning, and all of it -/
section
variable {R : RMo} {I : RIn} {sl il : List Nat} {M M1 M' : Mem} {h : Nat} {Q : Option Value → Mem → Prop}
def IniA (R : RMo) (n : Nat) (M : Mem) : Prop := (∀ c j, c ≤ 3 → j < n → mAI M (95 + c) j = 2) ∧ ∀ j k, j < n → k < moC R → mAI M 99 (24 * j + k) = 2
theorem IniA.k {n : Nat} (h : IniA R n M) (k : ∀ c, 95 ≤ c → c ≤ 99 → mAI M' c = mAI M c) : IniA R n M' := ⟨fun c j hc hj => by rw [k (95 + c) (by omega) (by omega)]; exact h.1 c j hc hj, fun j q hj hq => by rw [k 99 (by omega) (by omega)]; exact h.2 j q hj hq⟩
/-- truths unknown -/
theorem R_ini1 (hI : RbI R I M) (hS : RmS R sl M) (K : ∀ M', RbF M M' → IniA R (moS R).1 M' → T (h + 5) mdX11_solve 86 [(0, .ref 29), (1, .int (Int32.ofNat (moS R).1)), (2, .int 0)] [] M' Q) : T (h + 5) mdX11_solve 12 [(0, .ref 29), (1, .int (Int32.ofNat (moS R).1)), (2, .int 0)] [] M Q := by
  obtain ⟨⟨h4, hGG, q16, c3, c20, -⟩, -⟩ := id hS
  have h7 := hGG.1.2
  have main : ∀ (d n : Nat) (M1 : Mem), n + d = (moS R).1 → RbF M M1 → IniA R n M1 → T (h + 5) mdX11_solve 12 [(0, .ref 29), (1, .int (Int32.ofNat (moS R).1)), (2, .int (Int32.ofNat n))] [] M1 Q := by
    intro d
    induction d with
    | zero =>
      intro n M1 hn k1 a1
      refine VX11_solve_12 (h := h + 4) ?_
      unfold DX11_solve_12
      have en : n = (moS R).1 := by omega
      rw [en] at a1 ⊢
      exact ⟨fun _ => K M1 k1 a1, fun z => absurd Int32.le_rfl z⟩
    | succ d ih =>
      intro n M1 hn k1 a1
      have F1 := k1.fix hI.1
      have v70 : ∀ {z : Nat}, z = 700 → vp_in (Int32.ofNat n) z := fun e => by rw [e]; exact vp_of (by omega) (by decide)
      have cod : ∀ (e c : Nat) (M2 : Mem), c + e = moC R → RbF M M2 → (∀ q j, q ≤ 3 → j < n + 1 → mAI M2 (95 + q) j = 2) → (∀ j k, (j < n ∧ k < moC R) ∨ (j = n ∧ k < c) → mAI M2 99 (24 * j + k) = 2) → T (h + 5) mdX11_solve 47 [(0, .ref 29), (1, .int (Int32.ofNat (moS R).1)), (2, .int (Int32.ofNat n)), (3, .int (Int32.ofNat c))] [] M2 Q := by
        intro e
        induction e with
        | zero =>
          intro c M2 hc k2 w1 w2
          have F2 := k2.fix hI.1
          have I2 := k2.bi hI
          refine VX11_solve_47 (h := h + 4) ?_
          unfold DX11_solve_47
          rw [I2.2.1, lt32 (show moM R < 2147483648 by omega), succ32]
          refine ⟨ok29 F2, 92, rf29_74 F2, ok92 F2, by rw [ln92 F2]; exact vp_of h4 (by decide), ?_⟩
          rw [(k2.rm hS).2.2.2.2.2.2.1, show c = moC R by omega]
          refine ⟨fun _ => ih (n + 1) M2 (by omega) k2 ⟨w1, fun j k hj hk => w2 j k ?_⟩, fun z => absurd Int32.le_rfl z⟩
          by_cases z : j = n
          · exact Or.inr ⟨z, by omega⟩
          · exact Or.inl ⟨by omega, hk⟩
        | succ e ihe =>
          intro c M2 hc k2 w1 w2
          have F2 := k2.fix hI.1
          have I2 := k2.bi hI
          refine VX11_solve_47 (h := h + 4) ?_
          unfold DX11_solve_47
          rw [I2.2.1, lt32 (show moM R < 2147483648 by omega), ix24, lt32 (show 24 * n + c < 2147483648 by omega), succ32 (a := c)]
          refine ⟨ok29 F2, 92, rf29_74 F2, ok92 F2, by rw [ln92 F2]; exact vp_of h4 (by decide), ?_⟩
          rw [(k2.rm hS).2.2.2.2.2.2.1]
          refine ⟨fun z => ?_, fun _ => ⟨99, rf29_81 F2, ok99 F2, by rw [ln99 F2]; exact vp_of (by omega) (by decide), fun M6 e6 => ?_⟩⟩
          · have := (le32 (by omega) (by omega)).mp z
            omega
          refine ihe (c + 1) M6 (by omega) (k2.tr (RbF.up (by decide) e6)) (fun q j hq hj => ?_) (fun j k hj => ?_)
          · rw [e6, mAI_wAI, if_neg (fun z => by omega)]; exact w1 q j hq hj
          · rw [e6, mAI_wAI]
            by_cases z : 24 * j + k = 24 * n + c
            · rw [if_pos ⟨rfl, z⟩]
            · rw [if_neg (fun q => z q.2)]
              refine w2 j k ?_
              rcases hj with q | ⟨q1, q2⟩
              · exact Or.inl q
              · exact Or.inr ⟨q1, by rw [q1] at z; omega⟩
      refine VX11_solve_12 (h := h + 4) ?_
      unfold DX11_solve_12
      rw [lt32 (show n < 2147483648 by omega)]
      refine ⟨fun z => ?_, fun _ => ⟨ok29 F1, 95, rf29_77 F1, ok95 F1, v70 (ln95 F1), fun M4 e4 => ?_⟩⟩
      · have := (le32 (by omega) (by omega)).mp z
        omega
      have k4 := k1.tr (RbF.up (by decide) e4)
      have F4 := k4.fix hI.1
      refine ⟨96, rf29_78 F4, ok96 F4, v70 (ln96 F4), fun M7 e7 => ?_⟩
      have k7 := k4.tr (RbF.up (by decide) e7)
      have F7 := k7.fix hI.1
      refine ⟨97, rf29_79 F7, ok97 F7, v70 (ln97 F7), fun M10 e10 => ?_⟩
      have k10 := k7.tr (RbF.up (by decide) e10)
      have F10 := k10.fix hI.1
      refine ⟨98, rf29_80 F10, ok98 F10, v70 (ln98 F10), fun M13 e13 => ?_⟩
      refine cod (moC R) 0 M13 (by omega) (k10.tr (RbF.up (by decide) e13)) (fun q j hq hj => ?_) (fun j k hj => ?_)
      · rw [e13, mAI_wAI, e10, mAI_wAI, e7, mAI_wAI, e4, mAI_wAI]
        by_cases z : j = n
        · have : q = 0 ∨ q = 1 ∨ q = 2 ∨ q = 3 := by omega
          rcases this with e | e | e | e <;> rw [e, z] <;> simp
        · rw [if_neg (fun y => z y.2), if_neg (fun y => z y.2), if_neg (fun y => z y.2), if_neg (fun y => z y.2)]
          exact a1.1 q j hq (by omega)
      · rw [e13, mAI_wAI, if_neg (fun y => absurd y.1 (by decide)), e10, mAI_wAI, if_neg (fun y => absurd y.1 (by decide)), e7, mAI_wAI, if_neg (fun y => absurd y.1 (by decide)), e4, mAI_wAI, if_neg (fun y => absurd y.1 (by decide))]
        rcases hj with ⟨q1, q2⟩ | ⟨-, q2⟩
        · exact a1.2 j k q1 q2
        · omega
  exact main (moS R).1 0 M (by omega) RbF.rf ⟨fun c j _ hj => absurd hj (Nat.not_lt_zero _), fun j k hj => absurd hj (Nat.not_lt_zero _)⟩
theorem R_solve (hI : RbI R I M) (hb : ∀ s, iBf I s ≤ 1) (hS : RmS R sl M) (hL : NdL R) (hM : EmL R) (hG : SgL R) (hT : StL R sl) (hN : InL R I il M) (K : ∀ ρ M' b, RbF M M' → RSv R ρ M' → JF (FrR R I) ρ → (∀ i, FrR R I ρ i = ρ i) → (b = 1 ∧ KnR R ρ) ∨ (b = 0 ∧ ¬ KnR R ρ) → Q (some (.int b)) M') : E (h + 5) mdX11_solve [.ref 29] M Q := by
  obtain ⟨⟨h4, hGG, q16, c3, c20, -⟩, -⟩ := id hS
  have h7 := hGG.1.2
  have F := hI.1
  obtain ⟨⟨n1, n2⟩, n3, n4, n5, n6, n7⟩ := hN
  -- the loop
  have go : ∀ M1, RbF M M1 → IniA R (moS R).1 M1 → (∀ t, t < moQ R → moT R t ≠ 0 → mAI M1 100 t = 2) → (∀ j, j < il.length → mAI M1 100 (il.getD j 0) = Int32.ofNat (iGv I (il.getD j 0))) → mI M1 29 83 = 1 → T (h + 5) mdX11_solve 185 [(0, .ref 29), (1, .int (Int32.ofNat (moS R).1))] [] M1 Q := fun M1 k1 a1 w1 w2 f1 => by
    have gb : ∀ s, s < moQ R → moT R s = 0 → iGv I s ≤ 1 := fun s hs h0 => by
      obtain ⟨j, j1, j2⟩ := n6 s hs h0
      rw [← j2]; exact (n7 j j1).2
    have V0 : RSv R (rho0 R I) M1 := by
      refine ⟨fun j => ?_, fun j hj => ?_, fun c y hc iy => ?_, fun y n iy hn => ?_, fun s hs => ?_⟩
      · unfold rho0
        by_cases z : j.1 = 5 ∧ j.2.1 < moQ R ∧ j.2.2 = 0 ∧ moT R j.2.1 = 0
        · rw [if_pos z]
          have := gb _ z.2.1 z.2.2.2
          omega
        · rw [if_neg z]; exact Nat.le_refl _
      · unfold rho0
        rw [if_neg (fun z => hj (Or.inr (Or.inr ⟨z.1, z.2.1, z.2.2.1⟩)))]
      · obtain ⟨i1, i2⟩ := iy
        rw [a1.1 c _ hc (by omega)]
        unfold rho0
        rw [if_neg (fun z => by have : c = 5 := z.1; omega)]
        rfl
      · obtain ⟨i1, i2⟩ := iy
        rw [a1.2 _ n (by omega) hn]
        unfold rho0
        rw [if_neg (fun z => absurd (show (4 : Nat) = 5 from z.1) (by decide))]
        rfl
      · unfold rho0
        by_cases z : moT R s = 0
        · rw [if_pos ⟨rfl, hs, rfl, z⟩]
          obtain ⟨j, j1, j2⟩ := n6 s hs z
          have q := w2 j j1
          rw [j2] at q
          exact q
        · rw [if_neg (fun y => z y.2.2.2), w1 s hs z]
          rfl
    have J0 : JF (FrR R I) (rho0 R I) := JF.st0 (fun i => by
      by_cases z : i.1 = 5 ∧ i.2.1 < moQ R ∧ i.2.2 = 0 ∧ moT R i.2.1 = 0
      · refine Or.inr (fun u => ?_)
        obtain ⟨c, y, n⟩ := i
        have z1 : c = 5 := z.1
        have z3 : n = 0 := z.2.2.1
        subst z1 z3
        rw [Fr_in z.2.1 z.2.2.2]
        unfold rho0
        rw [if_pos z]
      · refine Or.inl ?_
        unfold rho0
        rw [if_neg z])
    have N0 : InK R I (rho0 R I) := fun s hs h0 => ⟨by unfold rho0; rw [if_pos ⟨rfl, hs, rfl, h0⟩], gb s hs h0⟩
    exact R_loop (h := h) (Q := Q) hI hb hS hL hM hG hT (fun ρ' M' k' V' J' f' => R_321 (h := h) (k'.bi hI) (k'.rm hS) V' (fun b q => K ρ' M' b k' V' J' f' q)) (muU (rho0 R I) (PLs R) + 1) (rho0 R I) M1 (by omega) k1 V0 N0 J0 f1
  -- the inputs
  have inp : ∀ (d i : Nat) (M1 : Mem), i + d = il.length → RbF M M1 → IniA R (moS R).1 M1 → (∀ t, t < moQ R → moT R t ≠ 0 → mAI M1 100 t = 2) → (∀ j, j < i → mAI M1 100 (il.getD j 0) = Int32.ofNat (iGv I (il.getD j 0))) → T (h + 5) mdX11_solve 135 [(0, .ref 29), (1, .int (Int32.ofNat (moS R).1)), (2, .int (Int32.ofNat i))] [] M1 Q := by
    intro d
    induction d with
    | zero =>
      intro i M1 hi k1 a1 w1 w2
      have F1 := k1.fix F
      have I1 := k1.bi hI
      have e35 : mAI M1 35 (moM R) = Int32.ofNat il.length := by rw [k1.2.2.2.2 35 (by decide)]; exact n1
      refine VX11_solve_135 (h := h + 4) ?_
      unfold DX11_solve_135
      rw [I1.2.1, lt32 (show moM R < 2147483648 by omega)]
      refine ⟨ok29 F1, 35, rf29_9 F1, ok35 F1, by rw [ln35 F1]; exact vp_of h4 (by decide), ?_⟩
      rw [e35, show i = il.length by omega]
      refine ⟨fun _ => ⟨Or.inr rfl, fun M4 e4 => ?_⟩, fun z => absurd Int32.le_rfl z⟩
      refine go M4 (k1.tr (RbF.wi e4)) (a1.k (fun c _ _ => by rw [e4]; rfl)) (fun t ht h0 => by rw [e4]; exact w1 t ht h0) (fun j hj => by rw [e4]; exact w2 j (by omega)) (by rw [e4]; exact mI_own _ _ _ _)
    | succ d ih =>
      intro i M1 hi k1 a1 w1 w2
      have F1 := k1.fix F
      have I1 := k1.bi hI
      have e35 : mAI M1 35 (moM R) = Int32.ofNat il.length := by rw [k1.2.2.2.2 35 (by decide)]; exact n1
      have e41 : mAI M1 41 (4 * moM R + i) = Int32.ofNat (il.getD i 0) := by rw [k1.2.2.2.2 41 (by decide)]; exact n3 i (by omega)
      have e4 : (4 : Int32) * Int32.ofNat (moM R) + Int32.ofNat i = Int32.ofNat (4 * moM R + i) := by rw [Int32.ofNat_add, Int32.ofNat_mul]; rfl
      obtain ⟨p1, p2⟩ := n5 i (by omega)
      have e87 : ((mI M1 29 87) >>> (Int32.ofNat i &&& 31)) &&& 1 = Int32.ofNat (iGv I (il.getD i 0)) := by rw [k1.2.2.2.1 87 (by decide)]; exact (n7 i (by omega)).1
      refine VX11_solve_135 (h := h + 4) ?_
      unfold DX11_solve_135
      rw [I1.2.1, lt32 (show moM R < 2147483648 by omega), e4, lt32 (show 4 * moM R + i < 2147483648 by omega), e87, succ32]
      refine ⟨ok29 F1, 35, rf29_9 F1, ok35 F1, by rw [ln35 F1]; exact vp_of h4 (by decide), ?_⟩
      rw [e35]
      refine ⟨fun z => ?_, fun _ => ⟨100, rf29_82 F1, 41, rf29_15 F1, ok41 F1, by rw [ln41 F1]; exact vp_of (by omega) (by decide), ok100 F1, ?_⟩⟩
      · have := (le32 (by omega) (by omega)).mp z
        omega
      rw [e41, lt32 (show il.getD i 0 < 2147483648 by omega)]
      refine ⟨by rw [ln100 F1]; exact vp_of (by omega) (by decide), fun M9 e9 => ?_⟩
      refine ih (i + 1) M9 (by omega) (k1.tr (RbF.up (by decide) e9)) (a1.k (fun c c1 c2 => by rw [e9]; exact mAI_wAI_ne (by omega))) (fun t ht h0 => ?_) (fun j hj => ?_)
      · rw [e9, mAI_wAI, if_neg (fun z => h0 (by rw [z.2]; exact p2))]
        exact w1 t ht h0
      · rw [e9, mAI_wAI]
        by_cases z : il.getD j 0 = il.getD i 0
        · rw [if_pos ⟨rfl, z⟩, z]
        · rw [if_neg (fun q => z q.2)]
          refine w2 j ?_
          have : j ≠ i := fun e => z (by rw [e])
          omega
  -- the signals
  have sig : ∀ (d t : Nat) (M1 : Mem), t + d = moQ R → RbF M M1 → IniA R (moS R).1 M1 → (∀ s, s < t → moT R s ≠ 0 → mAI M1 100 s = 2) → T (h + 5) mdX11_solve 86 [(0, .ref 29), (1, .int (Int32.ofNat (moS R).1)), (2, .int (Int32.ofNat t))] [] M1 Q := by
    intro d
    induction d with
    | zero =>
      intro t M1 ht k1 a1 w1
      have F1 := k1.fix F
      have I1 := k1.bi hI
      refine VX11_solve_86 (h := h + 4) ?_
      unfold DX11_solve_86
      rw [I1.2.1, lt32 (show moM R < 2147483648 by omega)]
      refine ⟨ok29 F1, 34, rf29_8 F1, ok34 F1, by rw [ln34 F1]; exact vp_of h4 (by decide), ?_⟩
      rw [(k1.rm hS).2.2.2.2.2.2.2.2.2.1, show t = moQ R by omega]
      exact ⟨fun _ => inp il.length 0 M1 (by omega) k1 a1 (fun s hs h0 => w1 s (by omega) h0) (fun j hj => absurd hj (Nat.not_lt_zero _)), fun z => absurd Int32.le_rfl z⟩
    | succ d ih =>
      intro t M1 ht k1 a1 w1
      have F1 := k1.fix F
      have I1 := k1.bi hI
      have S1 := k1.rm hS
      have tq : t < moQ R := by omega
      obtain ⟨u, u5, eu⟩ := hG t tq
      have e38 : mAI M1 38 (16 * moM R + t) = Int32.ofNat u := by rw [S1.2.2.2.2.2.2.2.2.2.2 t tq]; exact eu
      have e16 : (16 : Int32) * Int32.ofNat (moM R) + Int32.ofNat t = Int32.ofNat (16 * moM R + t) := by rw [Int32.ofNat_add, Int32.ofNat_mul]; rfl
      have u0 : (Int32.ofNat u ≤ 0) ↔ u = 0 := ⟨fun z => by have := (le32 (a := u) (b := 0) (by omega) (by decide)).mp z; omega, fun z => by rw [z]; exact Int32.le_rfl⟩
      have fin : ∀ (x : Int32), (moT R t ≠ 0 → x = 2) → DX11_solve_126 (h + 4) 29 (Int32.ofNat (moS R).1) (Int32.ofNat t) 100 (Int32.ofNat t) x M1 Q := fun x hx => by
        unfold DX11_solve_126
        rw [lt32 (show t < 2147483648 by omega), succ32]
        refine ⟨ok100 F1, by rw [ln100 F1]; exact vp_of (by omega) (by decide), fun M2 e2 => ?_⟩
        refine ih (t + 1) M2 (by omega) (k1.tr (RbF.up (by decide) e2)) (a1.k (fun c c1 c2 => by rw [e2]; exact mAI_wAI_ne (by omega))) (fun s hs h0 => ?_)
        rw [e2, mAI_wAI]
        by_cases z : s = t
        · rw [if_pos ⟨rfl, z⟩]; exact hx (by rw [← z]; exact h0)
        · rw [if_neg (fun q => z q.2)]; exact w1 s (by omega) h0
      refine VX11_solve_86 (h := h + 4) ?_
      unfold DX11_solve_86
      rw [I1.2.1, lt32 (show moM R < 2147483648 by omega), e16, lt32 (show 16 * moM R + t < 2147483648 by omega)]
      refine ⟨ok29 F1, 34, rf29_8 F1, ok34 F1, by rw [ln34 F1]; exact vp_of h4 (by decide), ?_⟩
      rw [S1.2.2.2.2.2.2.2.2.2.1]
      refine ⟨fun z => ?_, fun _ => ⟨100, rf29_82 F1, 38, rf29_12 F1, ok38 F1, by rw [ln38 F1]; exact vp_of (by omega) (by decide), ?_⟩⟩
      · have := (le32 (by omega) (by omega)).mp z
        omega
      rw [e38, u0]
      exact ⟨fun z => fin 0 (fun q => absurd (show moT R t = 0 by rw [eu, z]; rfl) q), fun _ => fin 2 (fun _ => rfl)⟩
  refine KX11_solve (h := h + 4) ?_
  unfold DX11_solve_0
  rw [hI.2.1, lt32 (show moM R < 2147483648 by omega)]
  refine ⟨ok29 F, 79, rf29_61 F, ok79 F, by rw [ln79 F]; exact vp_of h4 (by decide), ?_⟩
  rw [hS.2.2.2.2.2.1]
  exact R_ini1 (h := h) hI hS (fun M1 k1 a1 => sig (moQ R) 0 M1 (by omega) k1 a1 (fun s hs => absurd hs (Nat.not_lt_zero _)))
end
end
section
/-! the circuit is told what a beat begins with -/
theorem btL_0 {l : Nat} : btL 0 l = false := by
  unfold btL
  have e : (0 : Int32).toBitVec = 0#32 := rfl
  rw [e, BitVec.getLsbD_zero]
theorem btL_1 {l : Nat} (hl : l < 32) : btL (-1) l = true := by
  unfold btL
  have e : (-1 : Int32).toBitVec = BitVec.allOnes 32 := rfl
  rw [e, BitVec.getLsbD_allOnes]
  exact decide_eq_true hl
theorem btL_n {x : Int32} {l : Nat} (hl : l < 32) : btL (x ^^^ (-1)) l = !btL x l := by
  unfold btL
  have e : (-1 : Int32).toBitVec = BitVec.allOnes 32 := rfl
  rw [Int32.toBitVec_xor, e, BitVec.getLsbD_xor, BitVec.getLsbD_allOnes, decide_eq_true hl, Bool.xor_true]
section
variable {M M' : Mem} {x lc rc ya na : Nat} {N : Nt} {Y Z : Nat → Int32} {h n : Nat} {Q : Option Value → Mem → Prop}
/-- lanes behind a telling -/
def TlL (len n : Nat) (w : Int32) (Y Z Y' Z' : Nat → Int32) : Prop := CoL len Y' Z' ∧ ∀ l, l < 32 → ∀ j, laV len Y' Z' l j = if j = n then (if btL w l = true then 1 else 0) else laV len Y Z l j
theorem TlL.of {len : Nat} {w : Int32} (hC : CoL len Y Z) (hn : n < len) : TlL len n w Y Z (upL Y n w) (upL Z n (w ^^^ (-1))) := by
  refine ⟨fun j l hj hl => ?_, fun l hl j => ?_⟩
  · unfold upL
    by_cases e : j = n
    · rw [if_pos e, if_pos e, btL_n hl]
      cases btL w l <;> simp
    · rw [if_neg e, if_neg e]; exact hC j l hj hl
  · unfold laV upL
    by_cases e : j = n
    · rw [if_pos e, if_pos e, if_pos e, if_pos (by omega), btL_n hl]
      cases btL w l <;> simp
    · rw [if_neg e, if_neg e, if_neg e]
theorem S_tell {w : Int32} (hL : CrL M x lc rc ya na N Y Z) (hC : CoL N.length Y Z) (hn : n < N.length) (K : ∀ M' Y' Z', CrL M' x lc rc ya na N Y' Z' → ArF (fun c => c = ya ∨ c = na) M M' → TlL N.length n w Y Z Y' Z' → Q none M') : E (h + 1) mdX0_tell [.ref x, .int (Int32.ofNat (2 * n)), .int w] M Q := by
  obtain ⟨⟨o1, -⟩, ⟨r1, r2, r3, r4⟩, ⟨s1, s2, s3, s4⟩, ⟨y1, y2⟩, ⟨n1, -⟩, n6⟩ := id hL
  have us : ((Int32.ofNat (2 * n)).toUInt32 >>> ((1 : Int32).toUInt32 &&& Int32.toUInt32 31)).toInt32 = Int32.ofNat n := by
    have := us1_of (l := 2 * n) (by omega)
    rw [show 2 * n / 2 = n by omega] at this
    exact this
  refine KX0_tell ?_
  unfold DX0_tell_0
  rw [us, lt32 (show n < 2147483648 by omega)]
  refine ⟨o1, ya, r1, r2, vp_of (by omega) (by omega), fun M4 e4 => ⟨na, by rw [e4]; exact s1, by rw [e4]; exact s2, by rw [e4]; exact vp_of (show n < mL M na by omega) (show mL M na < 2147483648 by omega), fun M7 e7 => ?_⟩⟩
  have k4 : ArF (fun c => c = ya ∨ c = na) M M4 := ArF.up (Or.inl rfl) e4
  have k7 : ArF (fun c => c = ya ∨ c = na) M4 M7 := ArF.up (Or.inr rfl) e7
  refine K M7 (upL Y n w) (upL Z n (w ^^^ (-1))) (hL.ar (k4.tr k7) ?_ ?_) (k4.tr k7) (TlL.of hC hn)
  · funext j
    rw [e7, mAI_wAI, if_neg (fun z => n1 z.1), e4, mAI_wAI, y1]
    unfold upL
    by_cases z : j = n
    · rw [if_pos ⟨rfl, z⟩, if_pos z]
    · rw [if_neg (fun q => z q.2), if_neg z]
  · funext j
    rw [e7, mAI_wAI]
    unfold upL
    by_cases z : j = n
    · rw [if_pos ⟨rfl, z⟩, if_pos z]
    · rw [if_neg (fun q => z q.2), if_neg z, e4, mAI_wAI, if_neg (fun q => n1 q.1.symm), y2]
/-- stand's loop over the masks: one of them -/
theorem st_get {a1 a2 b1 b2 i : Nat} {xs hl : List Int32} {x1 x2 : Int32} (ox : ok M x 2) (f5 : mR M x 5 = some a1) (f6 : mR M x 6 = some a2) (hA1 : ALi M a1 b1 xs) (hA2 : ALi M a2 b2 hl) (hi : i < xs.length) (hl2 : hl.length = xs.length) (hm : xs.length < 200000) (K : DX0_stand_128 (h + 3) x x1 x2 (Int32.ofNat i) x (hl.getD i 0) (if x1 &&& xs.getD i 0 = 0 then 0 else -1) M Q) : T (h + 4) mdX0_stand 75 [(0, .ref x), (1, .int x1), (2, .int x2), (4, .int (Int32.ofNat i))] [] M Q := by
  obtain ⟨l1, A1, n1, e1⟩ := hA1
  obtain ⟨l2, A2, n2, e2⟩ := hA2
  refine xt_iload (j := 3) dX0_stand_75 rfl ?_
  refine xt_aload_n (j := 0) dX0_stand_77 rfl rfl ?_
  refine xt_getR dX0_stand_78 (flX0_29 rfl) ft_2_5 ox.1 ox.2 f5 ?_
  refine xt_callV (h2 := h + 3) (as := []) (st := [.int (Int32.ofNat i)]) dX0_stand_81 (mlX0_103 rfl) rfl A1.1.1 ⟨by rw [A1.1.2]; rfl, by rw [A1.1.2]; decide⟩ (by simp [Value.category]) (Nat.le_refl _) (S_alSize (h := h + 2) (Q := fun r M' => r = some (.int (Int32.ofNat l1.length)) ∧ M' = M) A1 ⟨rfl, rfl⟩) (fun r M4 HH hE => ?_)
  obtain ⟨hr, hM⟩ := HH
  subst hr
  rw [hM]
  clear hE hM M4
  show T _ _ _ _ [.int (Int32.ofNat l1.length), .int (Int32.ofNat i)] _ _
  refine xt_icmp_ge (tgt := 137) dX0_stand_84 (by decide) (fun hc => ?_) (fun _ => ?_)
  · have := (le32 (by omega) (by omega)).mp hc
    omega
  refine xt_aload_n (j := 0) dX0_stand_87 rfl rfl ?_
  refine xt_aload_n (j := 0) dX0_stand_88 rfl rfl ?_
  refine xt_getR dX0_stand_89 (flX0_33 rfl) ft_2_6 ox.1 ox.2 f6 ?_
  refine xt_iload (j := 3) dX0_stand_92 rfl ?_
  refine xt_callV (h2 := h + 3) (as := [.int (Int32.ofNat i)]) (st := [.ref x]) dX0_stand_94 (mlX0_106 rfl) rfl A2.1.1 ⟨by rw [A2.1.2]; rfl, by rw [A2.1.2]; decide⟩ (by simp [Value.category]) (Nat.le_refl _) (S_get (h := h) (Q := fun r M' => r = some (.ref (l2.getD i 0)) ∧ M' = M) A2 (by omega) ⟨rfl, rfl⟩) (fun r M5 HH hE => ?_)
  obtain ⟨hr, hM⟩ := HH
  subst hr
  rw [hM]
  clear hE hM M5
  show T _ _ _ _ [.ref (l2.getD i 0), .ref x] _ _
  refine xt_unbox (h := h + 2) dX0_stand_97 dX0_stand_100 (ccX0_86 rfl) (mlX0_110 rfl) (e2 i (by omega)) (by simp [Value.category]) ?_
  refine xt_iload_n (j := 1) dX0_stand_103 rfl rfl ?_
  refine xt_aload_n (j := 0) dX0_stand_104 rfl rfl ?_
  refine xt_getR dX0_stand_105 (flX0_29 rfl) ft_2_5 ox.1 ox.2 f5 ?_
  refine xt_iload (j := 3) dX0_stand_108 rfl ?_
  refine xt_callV (h2 := h + 3) (as := [.int (Int32.ofNat i)]) (st := [.int x1, .int (hl.getD i 0), .ref x]) dX0_stand_110 (mlX0_106 rfl) rfl A1.1.1 ⟨by rw [A1.1.2]; rfl, by rw [A1.1.2]; decide⟩ (by simp [Value.category]) (Nat.le_refl _) (S_get (h := h) (Q := fun r M' => r = some (.ref (l1.getD i 0)) ∧ M' = M) A1 (by omega) ⟨rfl, rfl⟩) (fun r M6 HH hE => ?_)
  obtain ⟨hr, hM⟩ := HH
  subst hr
  rw [hM]
  clear hE hM M6
  show T _ _ _ _ [.ref (l1.getD i 0), .int x1, .int (hl.getD i 0), .ref x] _ _
  refine xt_unbox (h := h + 2) dX0_stand_113 dX0_stand_116 (ccX0_86 rfl) (mlX0_110 rfl) (e1 i (by omega)) (by simp [Value.category]) ?_
  refine xt_iand dX0_stand_119 ?_
  refine xt_if_eq (tgt := 127) dX0_stand_120 (by decide) (fun hc => ?_) (fun hc => ?_)
  · rw [if_pos hc] at K
    refine xt_iconst (v := 0) dX0_stand_127 (by decide) ?_
    exact VX0_stand_128 (h := h + 3) K
  · rw [if_neg hc] at K
    refine xt_iconst (v := -1) dX0_stand_123 (by decide) ?_
    refine xt_goto (tgt := 128) dX0_stand_124 (by decide) ?_
    exact VX0_stand_128 (h := h + 3) K
end
end
section
/-! the circuit stands -/
/-- told nets have their truths in every lane, all others are not known or told -/
def TdI (len : Nat) (tb : Nat → Bool) (tv : Nat → Nat → Nat) (dn : Nat → Prop) (Y Z : Nat → Int32) : Prop := CoL len Y Z ∧ ∀ l, l < 32 → ∀ j, j < len → (laV len Y Z l j = 2 ∨ (tb j = true ∧ laV len Y Z l j = tv l j)) ∧ (dn j → laV len Y Z l j = tv l j)
section
variable {len n : Nat} {tb : Nat → Bool} {tv : Nat → Nat → Nat} {dn dn' : Nat → Prop} {Y Z Y' Z' : Nat → Int32} {w : Int32}
theorem TdI.tl (h : TdI len tb tv dn Y Z) (k : TlL len n w Y Z Y' Z') (hb : tb n = true) (hw : ∀ l, l < 32 → (if btL w l = true then 1 else 0) = tv l n) (hd : ∀ j, j < len → dn' j → dn j ∨ j = n) : TdI len tb tv dn' Y' Z' := by
  refine ⟨k.1, fun l hl j hj => ?_⟩
  rw [k.2 l hl j]
  by_cases e : j = n
  · rw [if_pos e, e, hw l hl]
    exact ⟨Or.inr ⟨hb, rfl⟩, fun _ => rfl⟩
  · rw [if_neg e]
    refine ⟨(h.2 l hl j hj).1, fun q => (h.2 l hl j hj).2 ?_⟩
    rcases hd j hj q with y | y
    · exact y
    · exact absurd y e
theorem TdI.j {N : Nt} (h : TdI N.length tb tv dn Y Z) (hd : ∀ j, j < N.length → tb j = true → dn j) : LnJ N tb tv Y Z := by
  refine ⟨h.1, fun l hl => ⟨JF.st0 (fun j => ?_), fun j hj ht => (h.2 l hl j hj).2 (hd j hj ht)⟩⟩
  by_cases hj : j < N.length
  · rcases (h.2 l hl j hj).1 with e | ⟨e1, e2⟩
    · exact Or.inl e
    · refine Or.inr (fun u => ?_)
      unfold FcN
      rw [if_pos hj, if_pos e1, e2]
  · refine Or.inl ?_
    unfold laV
    rw [if_neg hj]
end
/-- what standing may change -/
def StF (M M' : Mem) (x ya0 na0 ya na len : Nat) : Prop := fr (fun c => c = x ∨ c = ya0 ∨ c = na0) M M' ∧ (mI M' x = mI M x ∧ mJ M' x = mJ M x ∧ ∀ f, f ≠ 2 → f ≠ 3 → mR M' x f = mR M x f) ∧ ((ya = ya0 ∧ na = na0 ∧ mN M' = mN M ∧ mS M' = mS M) ∨ (ya = mN M ∧ na = mN M + 1 ∧ mN M' = mN M + 2 ∧ mS M' = mS M + 2 * len ∧ mL M ya0 < len))
section
variable {M M' M1 : Mem} {x lc rc ya na ya0 na0 : Nat} {N : Nt} {Y Z : Nat → Int32} {h n : Nat} {Q : Option Value → Mem → Prop} {tb : Nat → Bool} {tv : Nat → Nat → Nat}
theorem StF.ar (h : StF M M1 x ya0 na0 ya na n) (k : ArF (fun c => c = ya ∨ c = na) M1 M') (hb : ya0 < mN M ∧ na0 < mN M) : StF M M' x ya0 na0 ya na n := by
  obtain ⟨h1, ⟨h2, h3, h4⟩, h5⟩ := h
  obtain ⟨⟨a1, a2, a3, a4⟩, ⟨a5, a6, a7, a8, a9⟩, a10⟩ := id k
  refine ⟨h1.tr (S1 := fun c => c = ya ∨ c = na) ⟨k.e, fun c _ hc => ⟨by rw [a5], by rw [a6], by rw [a7], a10 c hc, by rw [a8], by rw [a9]⟩⟩ (fun c hc z => ?_), ⟨by rw [a5]; exact h2, by rw [a6]; exact h3, fun f f2 f3 => by rw [a7]; exact h4 f f2 f3⟩, by rw [a1, a2]; exact h5⟩
  rcases h5 with ⟨e1, e2, -⟩ | ⟨e1, e2, -⟩
  · rw [e1, e2] at z; exact Or.inr z
  · exfalso; omega
/-- the rest of standing, with rows that are long enough -/
theorem S_st32 {a1 a2 b1 b2 bc : Nat} {H hl : List Int32} {x1 x2 x3 : Int32} (hL : CrL M x lc rc ya na N Y Z) (h1 : 2 ≤ N.length) (f15 : mI M x 15 = 2) (f5 : mR M x 5 = some a1) (f6 : mR M x 6 = some a2) (hA1 : ALi M a1 b1 H) (hA2 : ALi M a2 b2 hl) (hl2 : hl.length = H.length) (hm : H.length < 200000) (f8 : mR M x 8 = some bc) (ob : ok M bc 21) (lb : mL M bc = 16) (nb : bc ≠ ya ∧ bc ≠ na) (t0 : tb 0 = true ∧ ∀ l, tv l 0 = 0) (t1 : tb 1 = true ∧ ∀ l, tv l 1 = if x3 = 0 then 0 else 1) (tH : ∀ i, i < H.length → ∃ n, hl.getD i 0 = Int32.ofNat (2 * n) ∧ n < N.length ∧ tb n = true ∧ ∀ l, tv l n = hvM x1 (H.getD i 0)) (tB : ∀ s, s < 16 → mAI M bc s = 0 ∨ ∃ n, mAI M bc s = Int32.ofNat (2 * n) ∧ 0 < n ∧ n < N.length ∧ tb n = true ∧ ∀ l, tv l n = if btL x2 s = true then 1 else 0) (kA : ∀ {M2 : Mem} {a b : Nat} {xs : List Int32}, ArF (fun c => c = ya ∨ c = na) M M2 → (a = a1 ∨ a = a2) → ALi M a b xs → ALi M2 a b xs) (K : ∀ M' Y' Z', CrL M' x lc rc ya na N Y' Z' → ArF (fun c => c = ya ∨ c = na) M M' → TdI N.length tb tv (fun j => j = 0 ∨ j = 1 ∨ (∃ i, i < H.length ∧ hl.getD i 0 = Int32.ofNat (2 * j)) ∨ (∃ s, s < 16 ∧ mAI M bc s = Int32.ofNat (2 * j) ∧ 0 < j)) Y' Z' → Q none M') : DX0_stand_32 (h + 3) x x1 x2 x3 M Q := by
  obtain ⟨hC0, ⟨r1, r2, r3, r4⟩, ⟨s1, s2, s3, s4⟩, ⟨y1, y2⟩, ⟨n1, n2, n3, n4, n5⟩, n6⟩ := id hL
  have o1 := hC0.1
  unfold DX0_stand_32
  refine ⟨o1, ya, r1, S_fill2 (h := h + 2) r2 (by omega) (fun M3 R3 _ => ⟨rfl, ?_⟩)⟩
  have k3 : ArF (fun c => c = ya ∨ c = na) M M3 := ⟨R3.1, R3.2.1, fun c hc => R3.2.2.1 c (fun e => hc (Or.inl e))⟩
  have na3 : mR M3 x 3 = some na := by rw [k3.2.1.2.2.1]; exact s1
  refine ⟨na, na3, S_fill2 (h := h + 2) (k3.ok s2) (by rw [k3.1.2.2.2]; omega) (fun M5 R5 _ => ⟨rfl, ?_⟩)⟩
  have k5 : ArF (fun c => c = ya ∨ c = na) M3 M5 := ⟨R5.1, R5.2.1, fun c hc => R5.2.2.1 c (fun e => hc (Or.inr e))⟩
  have k35 := k3.tr k5
  refine ⟨na, by rw [k35.2.1.2.2.1]; exact s1, k35.ok s2, by rw [k35.1.2.2.2]; exact vp_of (n := 0) (by omega) (by omega), fun M8 e8 => ?_⟩
  have k8 : ArF (fun c => c = ya ∨ c = na) M M8 := k35.tr (ArF.up (Or.inr rfl) e8)
  have z0 : (0 : Int32).toNatClampNeg = 0 := rfl
  rw [z0] at e8
  -- rows of noughts
  obtain ⟨Y8, eY⟩ : ∃ Y8, Y8 = mAI M8 ya := ⟨_, rfl⟩
  obtain ⟨Z8, eZ⟩ : ∃ Z8, Z8 = mAI M8 na := ⟨_, rfl⟩
  have L8 : CrL M8 x lc rc ya na N Y8 Z8 := hL.ar k8 eY.symm eZ.symm
  have vy : ∀ j, j < N.length → Y8 j = 0 := fun j hj => by
    rw [eY, e8, mAI_wAI, if_neg (fun z => n1 z.1), R5.2.2.1 ya n1, R3.2.2.2 j]
    unfold filF
    rw [if_pos ⟨Nat.zero_le _, by omega⟩]
  have vz : ∀ j, j < N.length → Z8 j = if j = 0 then -1 else 0 := fun j hj => by
    rw [eZ, e8, mAI_wAI]
    by_cases z : j = 0
    · rw [if_pos ⟨rfl, z⟩, if_pos z]
    · rw [if_neg (fun q => z q.2), if_neg z, R5.2.2.2 j]
      unfold filF
      rw [k3.1.2.2.2, if_pos ⟨Nat.zero_le _, by omega⟩]
  have T8 : TdI N.length tb tv (fun j => j = 0) Y8 Z8 := by
    refine ⟨fun j l hj hl => ?_, fun l hl j hj => ?_⟩
    · rw [vy j hj, btL_0]; simp
    · have e : laV N.length Y8 Z8 l j = if j = 0 then 0 else 2 := by
        unfold laV
        rw [if_pos hj, vy j hj, vz j hj, btL_0, if_neg (by decide)]
        by_cases z : j = 0
        · rw [if_pos z, if_pos z, if_pos (btL_1 hl)]
        · rw [if_neg z, if_neg z, btL_0, if_neg (by decide)]
      rw [e]
      by_cases z : j = 0
      · rw [if_pos z, z]
        exact ⟨Or.inr ⟨t0.1, (t0.2 l).symm⟩, fun _ => (t0.2 l).symm⟩
      · rw [if_neg z]
        exact ⟨Or.inl rfl, fun q => absurd q z⟩
  have f15' : mI M8 x 15 = 2 := by rw [k8.2.1.1]; exact f15
  -- signals before
  have bef : ∀ (d s : Nat) (M1 : Mem) (Y1 Z1 : Nat → Int32), s + d = 16 → CrL M1 x lc rc ya na N Y1 Z1 → ArF (fun c => c = ya ∨ c = na) M M1 → TdI N.length tb tv (fun j => j = 0 ∨ j = 1 ∨ (∃ i, i < H.length ∧ hl.getD i 0 = Int32.ofNat (2 * j)) ∨ (∃ t, t < s ∧ mAI M bc t = Int32.ofNat (2 * j) ∧ 0 < j)) Y1 Z1 → T (h + 4) mdX0_stand 140 [(0, .ref x), (2, .int x2), (4, .int (Int32.ofNat s))] [] M1 Q := by
    intro d
    induction d with
    | zero =>
      intro s M1 Y1 Z1 hs L1 A1 D1
      have lb1 : mL M1 bc = 16 := by rw [A1.1.2.2.2]; exact lb
      refine VX0_stand_140 (h := h + 3) ?_
      unfold DX0_stand_140
      refine ⟨L1.1.1, bc, by rw [A1.2.1.2.2.1]; exact f8, A1.ok ob, ?_⟩
      rw [lb1, show s = 16 by omega]
      refine ⟨fun _ => K M1 Y1 Z1 L1 A1 ?_, fun z => absurd Int32.le_rfl z⟩
      rw [show s = 16 by omega] at D1
      exact D1
    | succ d ih =>
      intro s M1 Y1 Z1 hs L1 A1 D1
      have lb1 : mL M1 bc = 16 := by rw [A1.1.2.2.2]; exact lb
      have ls : (Int32.ofNat s).toNatClampNeg = s := lt32 (by omega)
      have eb : mAI M1 bc s = mAI M bc s := by rw [A1.2.2 bc (fun z => z.elim nb.1 nb.2)]
      have g8 : mR M1 x 8 = some bc := by rw [A1.2.1.2.2.1]; exact f8
      have v16 : vp_in (Int32.ofNat s) (mL M1 bc) := by rw [lb1]; exact vp_of (by omega) (by decide)
      refine VX0_stand_140 (h := h + 3) ?_
      unfold DX0_stand_140 DX0_stand_185
      rw [ls, succ32]
      refine ⟨L1.1.1, bc, g8, A1.ok ob, fun z => ?_, fun _ => ⟨bc, g8, A1.ok ob, v16, fun z => ?_, fun z => ⟨bc, g8, A1.ok ob, v16, ?_⟩⟩⟩
      · rw [lb1] at z
        have := (le32 (a := 16) (by decide) (by omega)).mp z
        omega
      · rw [eb] at z
        refine ih (s + 1) M1 Y1 Z1 (by omega) L1 A1 ⟨D1.1, fun l hl j hj => ⟨(D1.2 l hl j hj).1, fun q => (D1.2 l hl j hj).2 ?_⟩⟩
        rcases q with q | q | q | ⟨t, t1, t2, t3⟩
        · exact Or.inl q
        · exact Or.inr (Or.inl q)
        · exact Or.inr (Or.inr (Or.inl q))
        · refine Or.inr (Or.inr (Or.inr ⟨t, ?_, t2, t3⟩))
          have : t ≠ s := fun e => by
            rw [e, z] at t2
            have := inj32 (a := 0) (b := 2 * j) (by decide) (by omega) t2
            omega
          omega
      · rw [eb] at z ⊢
        rcases tB s (by omega) with e | ⟨n, n1', n2', n3', n4', n5'⟩
        · exact absurd e z
        rw [n1']
        have go : ∀ (w : Int32), (∀ l, l < 32 → (if btL w l = true then 1 else 0) = tv l n) → DX0_stand_182 (h + 3) x x2 (Int32.ofNat s) x (Int32.ofNat (2 * n)) w M1 Q := fun w hw => by
          unfold DX0_stand_182 DX0_stand_185
          rw [succ32]
          refine ⟨L1.1.1, S_tell (h := h + 2) L1 D1.1 n3' (fun M2 Y2 Z2 L2 A2 t2 _ => ⟨rfl, ?_⟩)⟩
          refine ih (s + 1) M2 Y2 Z2 (by omega) L2 (A1.tr A2) (D1.tl t2 n4' hw (fun j hj q => ?_))
          rcases q with q | q | q | ⟨t, t1, t2, t3⟩
          · exact Or.inl (Or.inl q)
          · exact Or.inl (Or.inr (Or.inl q))
          · exact Or.inl (Or.inr (Or.inr (Or.inl q)))
          · by_cases e : t = s
            · rw [e, n1'] at t2
              have := inj32 (a := 2 * n) (b := 2 * j) (by omega) (by omega) t2
              exact Or.inr (by omega)
            · exact Or.inl (Or.inr (Or.inr (Or.inr ⟨t, by omega, t2, t3⟩)))
        rw [ub_0 (by omega)]
        refine ⟨fun y => go 0 (fun l hl => ?_), fun y => go (-1) (fun l hl => ?_)⟩
        · rw [btL_0, if_neg (by decide), n5' l, y, if_neg (by decide)]
        · have y : btL x2 s = true := by
            cases hb : btL x2 s with
            | true => rfl
            | false => exact absurd hb y
          rw [btL_1 hl, if_pos rfl, n5' l, y, if_pos rfl]
  -- held pauses
  have hld : ∀ (d i : Nat) (M1 : Mem) (Y1 Z1 : Nat → Int32), i + d = H.length → CrL M1 x lc rc ya na N Y1 Z1 → ArF (fun c => c = ya ∨ c = na) M M1 → TdI N.length tb tv (fun j => j = 0 ∨ j = 1 ∨ (∃ k, k < i ∧ hl.getD k 0 = Int32.ofNat (2 * j))) Y1 Z1 → T (h + 4) mdX0_stand 75 [(0, .ref x), (1, .int x1), (2, .int x2), (4, .int (Int32.ofNat i))] [] M1 Q := by
    intro d
    induction d with
    | zero =>
      intro i M1 Y1 Z1 hi L1 A1 D1
      have A11 := kA A1 (Or.inl rfl) hA1
      obtain ⟨ls, B1, nl, -⟩ := id A11
      refine VX0_stand_75 (h := h + 3) ?_
      unfold DX0_stand_75
      refine ⟨L1.1.1, a1, by rw [A1.2.1.2.2.1]; exact f5, B1.1, S_alSize (h := h + 2) B1 (fun _ => ⟨_, rfl, fun _ => ?_, fun z => absurd (by rw [nl, show i = H.length by omega]; exact Int32.le_rfl) z⟩)⟩
      refine bef 16 0 M1 Y1 Z1 (by omega) L1 A1 ⟨D1.1, fun l hl j hj => ⟨(D1.2 l hl j hj).1, fun q => (D1.2 l hl j hj).2 ?_⟩⟩
      rcases q with q | q | ⟨k, k1, k2⟩ | ⟨t, t1, -⟩
      · exact Or.inl q
      · exact Or.inr (Or.inl q)
      · exact Or.inr (Or.inr ⟨k, by omega, k2⟩)
      · exact absurd t1 (Nat.not_lt_zero _)
    | succ d ih =>
      intro i M1 Y1 Z1 hi L1 A1 D1
      have A11 := kA A1 (Or.inl rfl) hA1
      have A12 := kA A1 (Or.inr rfl) hA2
      obtain ⟨n, e1, e2, e3, e4⟩ := tH i (by omega)
      refine st_get (h := h) L1.1.1 (by rw [A1.2.1.2.2.1]; exact f5) (by rw [A1.2.1.2.2.1]; exact f6) A11 A12 (by omega) hl2 hm ?_
      unfold DX0_stand_128
      rw [e1, succ32]
      refine ⟨L1.1.1, S_tell (h := h + 2) L1 D1.1 e2 (fun M2 Y2 Z2 L2 A2 t2 _ => ⟨rfl, ?_⟩)⟩
      refine ih (i + 1) M2 Y2 Z2 (by omega) L2 (A1.tr A2) (D1.tl t2 e3 (fun l hl => ?_) (fun j hj q => ?_))
      · rw [e4 l]
        unfold hvM
        by_cases z : x1 &&& H.getD i 0 = 0
        · rw [if_pos z, if_pos z, btL_0, if_neg (by decide)]
        · rw [if_neg z, if_neg z, btL_1 hl, if_pos rfl]
      · rcases q with q | q | ⟨k, k1, k2⟩
        · exact Or.inl (Or.inl q)
        · exact Or.inl (Or.inr (Or.inl q))
        · by_cases e : k = i
          · rw [e, e1] at k2
            have := inj32 (a := 2 * n) (b := 2 * j) (by omega) (by omega) k2
            exact Or.inr (by omega)
          · exact Or.inl (Or.inr (Or.inr ⟨k, by omega, k2⟩))
  have go : ∀ (w : Int32), (∀ l, l < 32 → (if btL w l = true then 1 else 0) = tv l 1) → DX0_stand_69 (h + 3) x x1 x2 x (mI M8 x 15) w M8 Q := fun w hw => by
    unfold DX0_stand_69
    rw [f15']
    refine ⟨L8.1.1, S_tell (n := 1) (h := h + 2) L8 T8.1 (by omega) (fun M2 Y2 Z2 L2 A2 t2 _ => ⟨rfl, ?_⟩)⟩
    refine hld H.length 0 M2 Y2 Z2 (by omega) L2 (k8.tr A2) (T8.tl t2 t1.1 hw (fun j hj q => ?_))
    rcases q with q | q | ⟨k, k1, -⟩
    · exact Or.inl q
    · exact Or.inr q
    · exact absurd k1 (Nat.not_lt_zero _)
  refine ⟨fun z => go 0 (fun l hl => ?_), fun z => go (-1) (fun l hl => ?_)⟩
  · rw [btL_0, if_neg (by decide), t1.2 l, if_pos z]
  · rw [btL_1 hl, if_pos rfl, t1.2 l, if_neg z]
end
end
section
/-! the circuit stands, whole; inputs and ifs are told; what is seen of the lanes -/
section
variable {M M' M1 : Mem} {x lc rc ya na ya0 na0 : Nat} {N : Nt} {Y Z : Nat → Int32} {h n : Nat} {Q : Option Value → Mem → Prop} {tb : Nat → Bool} {tv : Nat → Nat → Nat}
theorem ali_ar {a b : Nat} {xs : List Int32} (hA : ALi M a b xs) (k : ArF (fun c => c = ya ∨ c = na) M M') (o1 : mK M ya = 21) (o2 : mK M na = 21) : ALi M' a b xs := by
  have kk : ∀ {c q : Nat}, (c = ya ∨ c = na) → mK M c = q → q = 21 := fun {c q} z e => by
    rcases z with z | z
    · rw [z, o1] at e; exact e.symm
    · rw [z, o2] at e; exact e.symm
  have f : fr (fun c => c = ya ∨ c = na) M M' := ⟨k.e, fun c _ hc => ⟨by rw [k.2.1.1], by rw [k.2.1.2.1], by rw [k.2.1.2.2.1], k.2.2 c hc, by rw [k.2.1.2.2.2.1], by rw [k.2.1.2.2.2.2]⟩⟩
  refine hA.fr f (fun z => ?_) (fun hb z => ?_) (fun c _ z w => ?_)
  · have q := kk z hA.ok1.2
    exact absurd q (by decide)
  · have q := kk z hb
    exact absurd q (by decide)
  · have q := kk z w
    exact absurd q (by decide)
/-- the circuit of a module that has been woven -/
def CrS (M : Mem) (x lc rc ya na a1 a2 b1 b2 bc : Nat) (N : Nt) (H hl : List Int32) : Prop := CirP M x lc rc N ∧ (mR M x 2 = some ya ∧ ok M ya 21 ∧ mL M ya < 1000000) ∧ (mR M x 3 = some na ∧ ok M na 21 ∧ mL M na < 1000000 ∧ (N.length ≤ mL M ya → N.length ≤ mL M na)) ∧ (ya ≠ na ∧ ya ≠ lc ∧ ya ≠ rc ∧ na ≠ lc ∧ na ≠ rc) ∧ (2 ≤ N.length ∧ N.length < 100000) ∧ mI M x 15 = 2 ∧ (mR M x 5 = some a1 ∧ mR M x 6 = some a2 ∧ ALi M a1 b1 H ∧ ALi M a2 b2 hl ∧ hl.length = H.length ∧ H.length < 200000) ∧ (mR M x 8 = some bc ∧ ok M bc 21 ∧ mL M bc = 16 ∧ bc ≠ ya ∧ bc ≠ na)
theorem S_stand {a1 a2 b1 b2 bc : Nat} {H hl : List Int32} {x1 x2 x3 : Int32} (hc : CrS M x lc rc ya0 na0 a1 a2 b1 b2 bc N H hl) (hbig : mN M + 2 < mBig) (t0 : tb 0 = true ∧ ∀ l, tv l 0 = 0) (t1 : tb 1 = true ∧ ∀ l, tv l 1 = if x3 = 0 then 0 else 1) (tH : ∀ i, i < H.length → ∃ n, hl.getD i 0 = Int32.ofNat (2 * n) ∧ n < N.length ∧ tb n = true ∧ ∀ l, tv l n = hvM x1 (H.getD i 0)) (tB : ∀ s, s < 16 → mAI M bc s = 0 ∨ ∃ n, mAI M bc s = Int32.ofNat (2 * n) ∧ 0 < n ∧ n < N.length ∧ tb n = true ∧ ∀ l, tv l n = if btL x2 s = true then 1 else 0) (K : ∀ M' ya na Y' Z', CrL M' x lc rc ya na N Y' Z' → StF M M' x ya0 na0 ya na N.length → TdI N.length tb tv (fun j => j = 0 ∨ j = 1 ∨ (∃ i, i < H.length ∧ hl.getD i 0 = Int32.ofNat (2 * j)) ∨ (∃ s, s < 16 ∧ mAI M bc s = Int32.ofNat (2 * j) ∧ 0 < j)) Y' Z' → Q none M') : E (h + 4) mdX0_stand [.ref x, .int x1, .int x2, .int x3] M Q := by
  obtain ⟨hC0, ⟨r1, r2, r4⟩, ⟨s1, s2, s3, s4⟩, ⟨n1, n2, n3, n4, n5⟩, ⟨g1, g2⟩, f15, ⟨f5, f6, hA1, hA2, hl2, hm⟩, f8, ob, lb, nb1, nb2⟩ := id hc
  obtain ⟨o1, c1, o2, c2, o3, i1, q, v, wf, d1, d2, d3⟩ := id hC0
  have ll : (Int32.ofNat N.length).toNatClampNeg = N.length := lt32 (by omega)
  refine KX0_stand (h := h + 3) ?_
  unfold DX0_stand_0
  refine ⟨o1, ya0, r1, r2, ?_⟩
  rw [i1, ll]
  refine ⟨fun z => ?_, fun z => ⟨fun y => ?_, by omega, fun q5 M4 eq5 e4 M6 e6 => ?_⟩⟩
  · have le : N.length ≤ mL M ya0 := (le32 (by omega) (by omega)).mp z
    have L : CrL M x lc rc ya0 na0 N (mAI M ya0) (mAI M na0) := ⟨hC0, ⟨r1, r2, le, r4⟩, ⟨s1, s2, s4 le, s3⟩, ⟨rfl, rfl⟩, ⟨n1, n2, n3, n4, n5⟩, g2⟩
    refine S_st32 (h := h) L g1 f15 f5 f6 hA1 hA2 hl2 hm f8 ob lb ⟨nb1, nb2⟩ t0 t1 tH tB (fun k _ A => ali_ar A k r2.2 s2.2) (fun M' Y' Z' L' A' T' => K M' ya0 na0 Y' Z' L' ?_ T')
    refine StF.ar (M1 := M) ⟨fr.rf, ⟨rfl, rfl, fun _ _ _ => rfl⟩, Or.inl ⟨rfl, rfl, rfl, rfl⟩⟩ A' ⟨r2.1, s2.1⟩
  · have := (ltn32 (a := N.length) (b := 0) (by omega) (by decide)).mp y
    omega
  · have lt : mL M ya0 < N.length := by
      by_cases y : N.length ≤ mL M ya0
      · exact absurd ((le32 (by omega) (by omega)).mpr y) z
      · omega
    have kx : x < mN M := o1.1
    -- the first new row
    have fr4 : fr (fun c => c = x) M M4 := by rw [e4]; exact fr_nwA
    have fr6 : fr (fun c => c = x) M4 M6 := by rw [e6]; exact fr_wR rfl
    have n4' : mN M4 = mN M + 1 := by rw [e4]; rfl
    have n6' : mN M6 = mN M + 1 := by rw [e6]; exact n4'
    have i6 : mI M6 x 4 = Int32.ofNat N.length := by rw [e6, e4]; exact i1
    rw [i6, ll]
    refine ⟨fun y => ?_, by omega, fun q8 M7 eq8 e7 M9 e9 => ?_⟩
    · have := (ltn32 (a := N.length) (b := 0) (by omega) (by decide)).mp y
      omega
    have fr7 : fr (fun c => c = x) M6 M7 := by rw [e7]; exact fr_nwA
    have fr9 : fr (fun c => c = x) M7 M9 := by rw [e9]; exact fr_wR rfl
    have F9 : fr (fun c => c = x) M M9 := ((fr4.tr fr6 (fun _ _ z => z)).tr fr7 (fun _ _ z => z)).tr fr9 (fun _ _ z => z)
    have n9 : mN M9 = mN M + 2 := by rw [e9]; show mN M7 = _; rw [e7]; show mN M6 + 1 = _; rw [n6']
    have s9 : mS M9 = mS M + 2 * N.length := by
      rw [e9]; show mS M7 = _; rw [e7]; show mS M6 + N.length = _; rw [e6]; show mS M4 + N.length = _; rw [e4]; show mS M + N.length + N.length = _; omega
    rw [n6'] at eq8
    have x9 : mI M9 x = mI M x ∧ mJ M9 x = mJ M x := by rw [e9, e7, e6, e4]; exact ⟨rfl, rfl⟩
    have r9 : ∀ f, f ≠ 2 → f ≠ 3 → mR M9 x f = mR M x f := fun f f2 f3 => by
      rw [e9, mR_wR, if_neg (fun z => f3 z.2), e7]
      show mR M6 x f = _
      rw [e6, mR_wR, if_neg (fun z => f2 z.2), e4]
      rfl
    have r92 : mR M9 x 2 = some (mN M) := by
      rw [e9, mR_wR, if_neg (fun z => absurd z.2 (by decide)), e7]
      show mR M6 x 2 = _
      rw [e6, mR_wR, if_pos ⟨rfl, rfl⟩, eq5]
    have r93 : mR M9 x 3 = some (mN M + 1) := by rw [e9, mR_wR, if_pos ⟨rfl, rfl⟩, eq8]
    have oy : ok M9 (mN M) 21 ∧ mL M9 (mN M) = N.length := by
      have k4 : mK M4 (mN M) = 21 ∧ mL M4 (mN M) = N.length := by rw [e4, mK_nwA, mL_nwA]; exact ⟨va_up_self _ _ _, va_up_self _ _ _⟩
      have k6 : mK M6 (mN M) = 21 ∧ mL M6 (mN M) = N.length := by rw [e6]; exact k4
      have k7 := fr7.1.2.2 (mN M) (by omega)
      refine ⟨⟨by omega, ?_⟩, ?_⟩
      · rw [e9]; show mK M7 _ = _; rw [k7.1]; exact k6.1
      · rw [e9]; show mL M7 _ = _; rw [k7.2]; exact k6.2
    have oz : ok M9 (mN M + 1) 21 ∧ mL M9 (mN M + 1) = N.length := by
      have k7 : mK M7 (mN M + 1) = 21 ∧ mL M7 (mN M + 1) = N.length := by rw [e7, mK_nwA, mL_nwA, n6']; exact ⟨va_up_self _ _ _, va_up_self _ _ _⟩
      refine ⟨⟨by omega, ?_⟩, ?_⟩
      · rw [e9]; exact k7.1
      · rw [e9]; exact k7.2
    have rowl := F9.2 lc o2.1 (fun e => d1 e.symm)
    have rowr := F9.2 rc o3.1 (fun e => d2 e.symm)
    have el : mL M9 lc = mL M lc := (F9.1.2.2 lc o2.1).2
    have er : mL M9 rc = mL M rc := (F9.1.2.2 rc o3.1).2
    have C9 : CirP M9 x lc rc N := ⟨ok_E o1 F9.1, by rw [r9 0 (by decide) (by decide)]; exact c1, ok_E o2 F9.1, by rw [r9 1 (by decide) (by decide)]; exact c2, ok_E o3 F9.1, by rw [x9.1]; exact i1, by rw [el, er]; exact q, fun j hj => by rw [rowl.2.2.2.1, rowr.2.2.2.1]; exact v j hj, wf, d1, d2, d3⟩
    have lo := o2.1
    have ro := o3.1
    have bo := ob.1
    have bx : bc ≠ x := fun e => by
      have := ob.2
      rw [e, o1.2] at this
      exact absurd this (by decide)
    have L9 : CrL M9 x lc rc (mN M) (mN M + 1) N (mAI M9 (mN M)) (mAI M9 (mN M + 1)) := ⟨C9, ⟨r92, oy.1, by rw [oy.2]; exact Nat.le_refl _, by rw [oy.2]; omega⟩, ⟨r93, oz.1, by rw [oz.2]; exact Nat.le_refl _, by rw [oz.2]; omega⟩, ⟨rfl, rfl⟩, ⟨by omega, by omega, by omega, by omega, by omega⟩, g2⟩
    have al : ∀ {a b : Nat} {xs : List Int32}, ALi M a b xs → ALi M9 a b xs := fun {a b xs} A => by
      refine A.fr F9 (fun z => ?_) (fun hb z => ?_) (fun c _ z w => ?_)
      · have := A.ok1.2
        rw [z, o1.2] at this
        exact absurd this (by decide)
      · rw [z, o1.2] at hb; exact absurd hb (by decide)
      · rw [z, o1.2] at w; exact absurd w (by decide)
    have rowb := F9.2 bc bo bx
    have eb : mAI M9 bc = mAI M bc := rowb.2.2.2.1
    refine S_st32 (h := h) L9 g1 (by rw [x9.1]; exact f15) (by rw [r9 5 (by decide) (by decide)]; exact f5) (by rw [r9 6 (by decide) (by decide)]; exact f6) (al hA1) (al hA2) hl2 hm (by rw [r9 8 (by decide) (by decide)]; exact f8) (ok_E ob F9.1) (by rw [(F9.1.2.2 bc bo).2]; exact lb) ⟨by omega, by omega⟩ t0 t1 tH (by rw [eb]; exact tB) (fun k _ A => ali_ar A k oy.1.2 oz.1.2) (fun M' Y' Z' L' A' T' => K M' (mN M) (mN M + 1) Y' Z' L' ?_ (by rw [eb] at T'; exact T'))
    refine StF.ar (M1 := M9) ⟨F9.more (fun c _ z => Or.inl z), ⟨x9.1, x9.2, r9⟩, Or.inr ⟨rfl, rfl, n9, s9, lt⟩⟩ A' ⟨r2.1, s2.1⟩
theorem S_tellIn {sc s : Nat} {w : Int32} (hL : CrL M x lc rc ya na N Y Z) (hC : CoL N.length Y Z) (f13 : mR M x 13 = some sc) (os : ok M sc 21) (ls : mL M sc = 16) (hs : s < 16) (es : mAI M sc s = Int32.ofNat (2 * n)) (hn : n < N.length) (K : ∀ M' Y' Z', CrL M' x lc rc ya na N Y' Z' → ArF (fun c => c = ya ∨ c = na) M M' → TlL N.length n w Y Z Y' Z' → Q none M') : E (h + 2) mdX0_tellInput [.ref x, .int (Int32.ofNat s), .int w] M Q := by
  refine KX0_tellInput (h := h + 1) ?_
  unfold DX0_tellInput_0
  rw [lt32 (show s < 2147483648 by omega)]
  refine ⟨hL.1.1, sc, f13, os, by rw [ls]; exact vp_of hs (by decide), ?_⟩
  rw [es]
  exact S_tell (h := h) hL hC hn (fun M2 Y2 Z2 L2 A2 t2 _ => ⟨rfl, K M2 Y2 Z2 L2 A2 t2⟩)
theorem S_tellIf {a b i : Nat} {xs : List Int32} {w : Int32} (hL : CrL M x lc rc ya na N Y Z) (hC : CoL N.length Y Z) (f7 : mR M x 7 = some a) (hA : ALi M a b xs) (hi : i < xs.length) (hm : xs.length < 200000) (es : xs.getD i 0 = Int32.ofNat (2 * n)) (hn : n < N.length) (K : ∀ M' Y' Z', CrL M' x lc rc ya na N Y' Z' → ArF (fun c => c = ya ∨ c = na) M M' → TlL N.length n w Y Z Y' Z' → Q none M') : E (h + 4) mdX0_tellIf [.ref x, .int (Int32.ofNat i), .int w] M Q := by
  have ox := hL.1.1
  obtain ⟨l1, A1, n1, e1⟩ := hA
  refine E.of (by decide) (Nat.le_of_ble_eq_true rfl) (fun _ _ _ => trivial) ?_
  show T _ _ 0 [(0, .ref x), (1, .int (Int32.ofNat i)), (2, .int w)] [] M _
  refine xt_iload_n (j := 1) dX0_tellIf_0 rfl rfl ?_
  refine xt_aload_n (j := 0) dX0_tellIf_1 rfl rfl ?_
  refine xt_getR dX0_tellIf_2 (flX0_36 rfl) ft_2_7 ox.1 ox.2 f7 ?_
  refine xt_callV (h2 := h + 3) (as := []) (st := [.int (Int32.ofNat i)]) dX0_tellIf_5 (mlX0_103 rfl) rfl A1.1.1 ⟨by rw [A1.1.2]; rfl, by rw [A1.1.2]; decide⟩ (by simp [Value.category]) (Nat.le_refl _) (S_alSize (h := h + 2) (Q := fun r M' => r = some (.int (Int32.ofNat l1.length)) ∧ M' = M) A1 ⟨rfl, rfl⟩) (fun r M4 HH hE => ?_)
  obtain ⟨hr, hM⟩ := HH
  subst hr
  rw [hM]
  clear hE hM M4
  show T _ _ _ _ [.int (Int32.ofNat l1.length), .int (Int32.ofNat i)] _ _
  refine xt_icmp_ge (tgt := 30) dX0_tellIf_8 (by decide) (fun hc => ?_) (fun _ => ?_)
  · have := (le32 (by omega) (by omega)).mp hc
    omega
  refine xt_aload_n (j := 0) dX0_tellIf_11 rfl rfl ?_
  refine xt_aload_n (j := 0) dX0_tellIf_12 rfl rfl ?_
  refine xt_getR dX0_tellIf_13 (flX0_36 rfl) ft_2_7 ox.1 ox.2 f7 ?_
  refine xt_iload_n (j := 1) dX0_tellIf_16 rfl rfl ?_
  refine xt_callV (h2 := h + 3) (as := [.int (Int32.ofNat i)]) (st := [.ref x]) dX0_tellIf_17 (mlX0_106 rfl) rfl A1.1.1 ⟨by rw [A1.1.2]; rfl, by rw [A1.1.2]; decide⟩ (by simp [Value.category]) (Nat.le_refl _) (S_get (h := h) (Q := fun r M' => r = some (.ref (l1.getD i 0)) ∧ M' = M) A1 (by omega) ⟨rfl, rfl⟩) (fun r M5 HH hE => ?_)
  obtain ⟨hr, hM⟩ := HH
  subst hr
  rw [hM]
  clear hE hM M5
  show T _ _ _ _ [.ref (l1.getD i 0), .ref x] _ _
  refine xt_unbox (h := h + 2) dX0_tellIf_20 dX0_tellIf_23 (ccX0_86 rfl) (mlX0_110 rfl) (e1 i (by omega)) (by simp [Value.category]) ?_
  refine xt_iload_n (j := 2) dX0_tellIf_26 rfl rfl ?_
  rw [es]
  refine xt_callV (h2 := h + 3) (as := [.int (Int32.ofNat (2 * n)), .int w]) (st := []) dX0_tellIf_27 (mlX0_117 rfl) rfl ox.1 ⟨by rw [ox.2]; rfl, by rw [ox.2]; decide⟩ (by simp [Value.category]) (Nat.le_refl _) (S_tell (h := h + 2) (Q := fun r M' => r = none ∧ Q none M') hL hC hn (fun M2 Y2 Z2 L2 A2 t2 => ⟨rfl, K M2 Y2 Z2 L2 A2 t2⟩)) (fun r M6 HH hE => ?_)
  obtain ⟨hr, hq⟩ := HH
  subst hr
  show T _ _ _ _ [] _ _
  exact xt_return dX0_tellIf_30 rfl hq
end
end
section
/-! what is seen of the lanes: stuck, shown, set behind -/
theorem btS : ∀ k l : Fin 32, btL ((1 : Int32) <<< (Int32.ofNat k.val &&& 31)) l.val = decide (l.val = k.val) := by decide +kernel
/-- bits of f below n -/
def shM (f : Nat → Bool) : Nat → Int32
  | 0 => 0
  | n + 1 => if f n = true then shM f n ||| ((1 : Int32) <<< (Int32.ofNat n &&& 31)) else shM f n
theorem shM_b {f : Nat → Bool} {l : Nat} (hl : l < 32) : ∀ n, n ≤ 32 → btL (shM f n) l = (decide (l < n) && f l)
  | 0, _ => by
    show btL 0 l = _
    rw [btL_0]; simp
  | n + 1, hn => by
    have ih := shM_b (f := f) hl n (by omega)
    show btL (if f n = true then shM f n ||| ((1 : Int32) <<< (Int32.ofNat n &&& 31)) else shM f n) l = _
    by_cases z : f n = true
    · rw [if_pos z, btL_or, ih, btS ⟨n, by omega⟩ ⟨l, hl⟩]
      show (decide (l < n) && f l || decide (l = n)) = (decide (l < n + 1) && f l)
      by_cases e : l = n
      · rw [e, z]; simp
      · rw [decide_eq_false e, Bool.or_false]
        by_cases y : l < n
        · rw [decide_eq_true y, decide_eq_true (show l < n + 1 by omega)]
        · rw [decide_eq_false y, decide_eq_false (show ¬ l < n + 1 by omega)]
    · rw [if_neg z, ih]
      by_cases e : l = n
      · have z : f l = false := by
          rw [e]
          cases hf : f n with
          | true => exact absurd hf z
          | false => rfl
        rw [z]; simp
      · by_cases y : l < n
        · rw [decide_eq_true y, decide_eq_true (show l < n + 1 by omega)]
        · rw [decide_eq_false y, decide_eq_false (show ¬ l < n + 1 by omega)]
theorem shM_cg {f g : Nat → Bool} : ∀ n, (∀ k, k < n → f k = g k) → shM f n = shM g n
  | 0, _ => rfl
  | n + 1, h => by
    show (if f n = true then shM f n ||| _ else shM f n) = (if g n = true then shM g n ||| _ else shM g n)
    rw [h n (by omega), shM_cg n (fun k hk => h k (by omega))]
theorem shM_more {f : Nat → Bool} {n : Nat} : ∀ d, (∀ k, n ≤ k → k < n + d → f k = false) → shM f (n + d) = shM f n
  | 0, _ => rfl
  | d + 1, h => by
    show (if f (n + d) = true then shM f (n + d) ||| _ else shM f (n + d)) = _
    rw [h (n + d) (by omega) (by omega), if_neg (by decide)]
    exact shM_more d (fun k h1 h2 => h k h1 (by omega))
section
variable {M : Mem} {x lc rc ya na : Nat} {N : Nt} {Y Z : Nat → Int32} {h l : Nat} {Q : Option Value → Mem → Prop}
theorem S_stuck (hL : CrL M x lc rc ya na N Y Z) (K : ∀ r, (∀ l, l < 32 → (btL r l = true ↔ ∃ n, n < N.length ∧ laV N.length Y Z l n = 2)) → Q (some (.int r)) M) : E (h + 1) mdX0_stuckLanes [.ref x] M Q := by
  obtain ⟨⟨o1, c1, o2, c2, o3, i1, -⟩, ⟨r1, r2, r3, r4⟩, ⟨s1, s2, s3, s4⟩, ⟨y1, y2⟩, -, n6⟩ := id hL
  have main : ∀ (d n : Nat) (w : Int32), n + d = N.length → (∀ l, l < 32 → (btL w l = true ↔ ∃ j, j < n ∧ laV N.length Y Z l j = 2)) → T (h + 1) mdX0_stuckLanes 4 [(0, .ref x), (1, .int w), (2, .int (Int32.ofNat n))] [] M Q := by
    intro d
    induction d with
    | zero =>
      intro n w hn hw
      refine VX0_stuckLanes_4 ?_
      unfold DX0_stuckLanes_4
      rw [i1, show n = N.length by omega]
      refine ⟨o1, fun _ => K w (fun l hl => ?_), fun z => absurd Int32.le_rfl z⟩
      rw [hw l hl, show n = N.length by omega]
    | succ d ih =>
      intro n w hn hw
      have nl : n < N.length := by omega
      refine VX0_stuckLanes_4 ?_
      unfold DX0_stuckLanes_4
      rw [i1, lt32 (show n < 2147483648 by omega), succ32]
      refine ⟨o1, fun z => ?_, fun _ => ⟨ya, r1, r2, vp_of (by omega) (by omega), na, s1, s2, vp_of (by omega) (by omega), ?_⟩⟩
      · have := (le32 (by omega) (by omega)).mp z
        omega
      rw [y1, y2]
      refine ih (n + 1) _ (by omega) (fun l hl => ?_)
      rw [btL_or, btL_n hl, btL_or, Bool.or_eq_true, hw l hl]
      have e : ((!(btL (Y n) l || btL (Z n) l)) = true) ↔ laV N.length Y Z l n = 2 := by
        unfold laV
        rw [if_pos nl]
        cases btL (Y n) l <;> cases btL (Z n) l <;> simp
      rw [e]
      refine ⟨?_, ?_⟩
      · rintro (⟨j, j1, j2⟩ | q)
        · exact ⟨j, by omega, j2⟩
        · exact ⟨n, by omega, q⟩
      · rintro ⟨j, j1, j2⟩
        by_cases z : j = n
        · rw [z] at j2; exact Or.inr j2
        · exact Or.inl ⟨j, by omega, j2⟩
  refine KX0_stuckLanes ?_
  unfold DX0_stuckLanes_0
  exact main N.length 0 0 (by omega) (fun l hl => ⟨fun e => by rw [btL_0] at e; exact absurd e (by decide), fun ⟨j, j1, _⟩ => absurd j1 (Nat.not_lt_zero _)⟩)
theorem S_shown {sc : Nat} {g : Nat → Nat} (hL : CrL M x lc rc ya na N Y Z) (hC : CoL N.length Y Z) (hl : l < 32) (f13 : mR M x 13 = some sc) (os : ok M sc 21) (ls : mL M sc = 16) (es : ∀ s, s < 16 → mAI M sc s = Int32.ofNat (g s) ∧ g s < 2 * N.length) (H : Q (some (.int (shM (fun s => decide (lvN (laV N.length Y Z l) (g s) = 1)) 16))) M) : E (h + 3) mdX0_shownIn [.ref x, .int (Int32.ofNat l)] M Q := by
  have main : ∀ (d s : Nat), s + d = 16 → T (h + 3) mdX0_shownIn 4 [(0, .ref x), (1, .int (Int32.ofNat l)), (2, .int (shM (fun s => decide (lvN (laV N.length Y Z l) (g s) = 1)) s)), (3, .int (Int32.ofNat s))] [] M Q := by
    intro d
    induction d with
    | zero =>
      intro s hs
      refine VX0_shownIn_4 (h := h + 2) ?_
      unfold DX0_shownIn_4
      refine ⟨hL.1.1, sc, f13, os, ?_⟩
      rw [ls, show s = 16 by omega]
      exact ⟨fun _ => H, fun z => absurd Int32.le_rfl z⟩
    | succ d ih =>
      intro s hs
      obtain ⟨e1, e2⟩ := es s (by omega)
      have nx := ih (s + 1) (by omega)
      have er : shM (fun s => decide (lvN (laV N.length Y Z l) (g s) = 1)) (s + 1) = if decide (lvN (laV N.length Y Z l) (g s) = 1) = true then shM (fun s => decide (lvN (laV N.length Y Z l) (g s) = 1)) s ||| ((1 : Int32) <<< (Int32.ofNat s &&& 31)) else shM (fun s => decide (lvN (laV N.length Y Z l) (g s) = 1)) s := rfl
      rw [er] at nx
      refine VX0_shownIn_4 (h := h + 2) ?_
      unfold DX0_shownIn_4 DX0_shownIn_33
      rw [lt32 (show s < 2147483648 by omega), succ32]
      refine ⟨hL.1.1, sc, f13, os, fun z => ?_, fun _ => ⟨sc, f13, os, by rw [ls]; exact vp_of (by omega) (by decide), ?_⟩⟩
      · rw [ls] at z
        have := (le32 (a := 16) (by decide) (by omega)).mp z
        omega
      rw [e1]
      refine S_isOn (h := h) hL hC e2 hl (fun _ => ⟨_, rfl, fun z => ?_, fun z => ?_⟩)
      · have n1 : ¬ lvN (laV N.length Y Z l) (g s) = 1 := fun e => by rw [if_pos e] at z; exact absurd z (by decide)
        rw [if_neg (by rw [decide_eq_true_eq]; exact n1)] at nx
        exact nx
      · have y1 : lvN (laV N.length Y Z l) (g s) = 1 := by
          by_cases e : lvN (laV N.length Y Z l) (g s) = 1
          · exact e
          · rw [if_neg e] at z; exact absurd rfl z
        rw [if_pos (decide_eq_true y1)] at nx
        exact nx
  refine KX0_shownIn (h := h + 2) ?_
  unfold DX0_shownIn_0
  exact main 16 0 (by omega)
/-- a pause is set behind the beat -/
def stB (v : Nat → Nat) (set : Int32) (g s k : Nat → Nat) (p : Nat) : Bool := decide (¬ lvN v (k p) = 1 ∧ (lvN v (g p) = 1 ∨ (lvN v (s p) = 1 ∧ btL set p = true)))
theorem S_setB {c9 c10 c11 pz : Nat} {g s k : Nat → Nat} {set : Int32} (hL : CrL M x lc rc ya na N Y Z) (hC : CoL N.length Y Z) (hl : l < 32) (f12 : mI M x 12 = Int32.ofNat pz) (hp : pz ≤ 24) (f9 : mR M x 9 = some c9 ∧ ok M c9 21 ∧ mL M c9 = 24) (f10 : mR M x 10 = some c10 ∧ ok M c10 21 ∧ mL M c10 = 24) (f11 : mR M x 11 = some c11 ∧ ok M c11 21 ∧ mL M c11 = 24) (eg : ∀ p, p < pz → mAI M c9 p = Int32.ofNat (g p) ∧ g p < 2 * N.length) (es : ∀ p, p < pz → mAI M c10 p = Int32.ofNat (s p) ∧ s p < 2 * N.length) (ek : ∀ p, p < pz → mAI M c11 p = Int32.ofNat (k p) ∧ k p < 2 * N.length) (H : Q (some (.int (shM (stB (laV N.length Y Z l) set g s k) pz))) M) : E (h + 3) mdX0_setBehind [.ref x, .int (Int32.ofNat l), .int set] M Q := by
  obtain ⟨v, ev⟩ : ∃ v, v = laV N.length Y Z l := ⟨_, rfl⟩
  rw [← ev] at H
  have main : ∀ (d p : Nat), p + d = pz → T (h + 3) mdX0_setBehind 5 [(0, .ref x), (1, .int (Int32.ofNat l)), (2, .int set), (3, .int (shM (stB v set g s k) p)), (4, .int (Int32.ofNat p))] [] M Q := by
    intro d
    induction d with
    | zero =>
      intro p hpp
      refine VX0_setBehind_5 (h := h + 2) ?_
      unfold DX0_setBehind_5
      rw [f12, show p = pz by omega]
      exact ⟨hL.1.1, fun _ => H, fun z => absurd Int32.le_rfl z⟩
    | succ d ih =>
      intro p hpp
      have lp : (Int32.ofNat p).toNatClampNeg = p := lt32 (by omega)
      have nx := ih (p + 1) (by omega)
      have er : shM (stB v set g s k) (p + 1) = if stB v set g s k p = true then shM (stB v set g s k) p ||| ((1 : Int32) <<< (Int32.ofNat p &&& 31)) else shM (stB v set g s k) p := rfl
      rw [er] at nx
      have no : stB v set g s k p = false → DX0_setBehind_87 (h + 2) x (Int32.ofNat l) set (shM (stB v set g s k) p) (Int32.ofNat p) M Q := fun e => by
        unfold DX0_setBehind_87
        rw [succ32]
        rw [e, if_neg (by decide)] at nx
        exact nx
      have yes : stB v set g s k p = true → DX0_setBehind_80 (h + 2) x (Int32.ofNat l) set (shM (stB v set g s k) p) (Int32.ofNat p) M Q := fun e => by
        unfold DX0_setBehind_80 DX0_setBehind_87
        rw [succ32]
        rw [e, if_pos rfl] at nx
        exact nx
      have is1 : ∀ {a : Nat} {z : Int32}, z = (if lvN v a = 1 then 1 else 0) → (z = 0 ↔ ¬ lvN v a = 1) := fun {a z} e => by
        rw [e]
        by_cases y : lvN v a = 1
        · rw [if_pos y]; exact ⟨fun q => absurd q (by decide), fun q => absurd y q⟩
        · rw [if_neg y]; exact ⟨fun _ => y, fun _ => rfl⟩
      have vp : ∀ {z : Nat}, z = 24 → vp_in (Int32.ofNat p) z := fun e => by rw [e]; exact vp_of (by omega) (by decide)
      obtain ⟨g1, g2⟩ := eg p (by omega)
      obtain ⟨s1, s2⟩ := es p (by omega)
      obtain ⟨k1, k2⟩ := ek p (by omega)
      -- behind the look at what stays
      have b43 : ∀ (b : Int32), ((b = 1 ∧ lvN v (s p) = 1 ∧ btL set p = true) ∨ (b = 0 ∧ ¬ (lvN v (s p) = 1 ∧ btL set p = true))) → DX0_setBehind_43 (h + 2) x (Int32.ofNat l) set (shM (stB v set g s k) p) (Int32.ofNat p) b M Q := fun b hb => by
        unfold DX0_setBehind_43
        rw [lp]
        refine ⟨hL.1.1, c11, f11.1, f11.2.1, vp f11.2.2, ?_⟩
        rw [k1]
        refine S_isOn (h := h) hL hC k2 hl (fun _ => ⟨_, rfl, ?_⟩)
        rw [← ev, is1 rfl]
        refine ⟨fun z => ?_, fun z => ⟨c9, f9.1, f9.2.1, vp f9.2.2, ?_⟩⟩
        · refine no (decide_eq_false (fun q => z q.1))
        rw [g1]
        refine S_isOn (h := h) hL hC g2 hl (fun _ => ⟨_, rfl, ?_⟩)
        rw [← ev, is1 rfl]
        refine ⟨fun y => ?_, fun y => ⟨fun bz => ?_, fun bz => ?_⟩⟩
        · refine yes (decide_eq_true ⟨z, Or.inl ?_⟩)
          by_cases e : lvN v (g p) = 1
          · exact e
          · exact absurd e y
        · rcases hb with ⟨q1, -⟩ | ⟨-, q2⟩
          · rw [q1] at bz; exact absurd bz (by decide)
          · exact no (decide_eq_false (fun q => q.2.elim y q2))
        · rcases hb with ⟨-, q2⟩ | ⟨q1, -⟩
          · exact yes (decide_eq_true ⟨z, Or.inr q2⟩)
          · exact absurd q1 bz
      refine VX0_setBehind_5 (h := h + 2) ?_
      unfold DX0_setBehind_5 DX0_setBehind_42
      rw [f12, lp]
      refine ⟨hL.1.1, fun z => ?_, fun _ => ⟨c10, f10.1, f10.2.1, vp f10.2.2, ?_⟩⟩
      · have := (le32 (by omega) (by omega)).mp z
        omega
      rw [s1]
      refine S_isOn (h := h) hL hC s2 hl (fun _ => ⟨_, rfl, ?_⟩)
      rw [← ev, is1 rfl, ub_0 (by omega)]
      refine ⟨fun z => b43 0 (Or.inr ⟨rfl, fun q => z q.1⟩), fun z => ⟨fun y => b43 0 (Or.inr ⟨rfl, fun q => ?_⟩), fun y => b43 1 (Or.inl ⟨rfl, ?_, ?_⟩)⟩⟩
      · rw [y] at q; exact absurd q.2 (by decide)
      · by_cases e : lvN v (s p) = 1
        · exact e
        · exact absurd e z
      · cases hb : btL set p with
        | true => rfl
        | false => exact absurd hb y
  refine KX0_setBehind (h := h + 2) ?_
  unfold DX0_setBehind_0
  exact main pz 0 (by omega)
end
end
