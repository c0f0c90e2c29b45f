/-! the rows of parts as they lie linked: the whole reading -/
section
variable {b : Nat → Int32} {n s m : Nat} {τ : Td}
theorem nm32 {x : Nat} (h : x < 100000) : Int32.ofNat x ≠ -1 := by
  intro z
  have := congrArg Int32.toInt z
  rw [ti32 (by omega)] at this
  have e : (-1 : Int32).toInt = -1 := by decide
  rw [e] at this
  omega
def FrP0 (m : Nat) (K : List KE) (_ : Nat) (σ : PS) (r : Nat × PS × Nat) : Prop := σ.1.2.1 73 (sqK K) = -1 → FrK σ.1.2.1 r.2.1.1.2.1 (40 * m + npS σ) (σ.1.1 4) (sqK K) ∧ r.2.1.1.2.1 75 (sqK K) = σ.1.2.1 75 (sqK K) ∧ r.2.1.1.2.1 73 (sqK K) = Int32.ofNat (40 * m + npS σ)
def FrP1 (m : Nat) (K : List KE) (_ : Nat) (σ : PS) (_ : Nat) (r : Nat × PS × Nat) : Prop := σ.1.2.1 73 (sqK K) ≠ -1 → FrK σ.1.2.1 r.2.1.1.2.1 (40 * m + npS σ) (σ.1.1 4) (sqK K) ∧ r.2.1.1.2.1 75 (sqK K) = σ.1.2.1 75 (sqK K) ∧ r.2.1.1.2.1 73 (sqK K) = σ.1.2.1 73 (sqK K)
def FrP2 (m : Nat) (K : List KE) (_ : Nat) (σ : PS) (r : Nat × PS × Nat) : Prop := FrK σ.1.2.1 r.2.1.1.2.1 (40 * m + npS σ) (σ.1.1 4) (sqK K) ∧ LkK σ.1.2.1 r.2.1.1.2.1 (40 * m + npS σ) (sqK K)
def FrP3 (m : Nat) (_ : List KE) (_ : Nat) (σ : PS) (_ _ a3 _ : Nat) (_ _ : Int32) (r : Nat × PS × Nat) : Prop := σ.1.2.1 73 a3 = -1 → FrK σ.1.2.1 r.2.1.1.2.1 (40 * m + npS σ) (σ.1.1 4) a3
/-- a part that begins, and what keeps all that lay there -/
theorem fr_bg {K : List KE} {i k : Nat} {σ σ' : PS} {r : Nat × PS × Nat} {kd : Int32} {pl d : Nat} {wh : Int32} (h4 : m < 4) (hR : RQ b n s m 2 K i σ 0 0 0 r) (hk : KpK (bgP m kd pl (sqK K) d wh σ).1.2.1 σ'.1.2.1 (40 * m + (npS σ + 1)) (σ.1.1 4)) (e : r = (k, σ', r.2.2)) : FrP2 m K i σ r := by
  obtain ⟨⟨hi, h0, hP, hK, hq, -⟩, -⟩ := hR
  have hq := hq (by decide)
  have x := hP.2.2.2.2 (sqK K) hq
  have hn := hP.1
  have q := bg_lk (A := σ.1.2.1) (p := 40 * m + npS σ) (so := soK kd) (pl := pl) (q := sqK K) (wh := wh) (r := σ.1.1 4) (by omega) (by
    rcases x with z | ⟨y, z1, z2⟩
    · exact Or.inl z
    · exact Or.inr ⟨y, z1.2, z2⟩)
  have hk : KpK (bgA (40 * m + npS σ) (soK kd) pl (sqK K) wh σ.1.2.1) σ'.1.2.1 (40 * m + (npS σ + 1)) (σ.1.1 4) := hk
  rw [e]
  exact ⟨q.1.by hk (by omega) (Nat.le_refl _), q.2.by hk (by omega) hq⟩
theorem rp_fr (hS : Sto b n s) (h4 : m < 4) : ∀ g, (∀ K i σ r, i ≤ s ∧ tK b n i ≠ 0 ∧ RpI m 0 K σ 0 0 → rp b n m τ g 0 K i σ 0 0 0 0 0 0 = .ok r → FrP0 m K i σ r) ∧ (∀ K i σ a1 r, i ≤ s ∧ tK b n i ≠ 0 ∧ RpI m 1 K σ 0 0 → rp b n m τ g 1 K i σ a1 0 0 0 0 0 = .ok r → FrP1 m K i σ a1 r) ∧ (∀ K i σ r, i ≤ s ∧ tK b n i ≠ 0 ∧ RpI m 2 K σ 0 0 → rp b n m τ g 2 K i σ 0 0 0 0 0 0 = .ok r → FrP2 m K i σ r) ∧ (∀ K i σ a1 a2 a3 a4 c1 c2 r, i ≤ s ∧ tK b n i ≠ 0 ∧ RpI m 3 K σ a2 a3 → rp b n m τ g 3 K i σ a1 a2 a3 a4 c1 c2 = .ok r → FrP3 m K i σ a1 a2 a3 a4 c1 c2 r) := by
  have big : ∀ σ, PsOk m σ → 40 * m + npS σ < 100000 := fun σ h => by have := h.1; omega
  have nm1 : ∀ x, x < 100000 → Int32.ofNat x ≠ -1 := fun x h => nm32 h
  refine rp_ind hS (FrP0 m) (FrP2 m) (FrP1 m) (FrP3 m) ?_ ?_ ?_ ?_ ?_ ?_ ?_ ?_ ?_ ?_
  · intro K i σ q r hR R2 p2 R1 p1 h73
    obtain ⟨f2, l2⟩ := p2
    have f2 : FrK σ.1.2.1 q.2.1.1.2.1 (40 * m + npS σ) (σ.1.1 4) (sqK K) := f2
    have l2 : LkK σ.1.2.1 q.2.1.1.2.1 (40 * m + npS σ) (sqK K) := l2
    have hb := big _ hR.1.2.2.1
    have e73 := l2.2.2.2.1 h73
    obtain ⟨g1, g2, g3⟩ := p1 (by show q.2.1.1.2.1 73 (sqK K) ≠ -1; rw [e73]; exact nm1 _ hb)
    have v1 : npS σ ≤ npS q.2.1 := R2.2.1.1.1
    have v2 : σ.1.1 4 ≤ q.2.1.1.1 4 := R2.2.1.1.2.1
    have g1 : FrK q.2.1.1.2.1 r.2.1.1.2.1 (40 * m + npS q.2.1) (q.2.1.1.1 4) (sqK K) := g1
    exact ⟨f2.two l2 g1 (by omega) v2 hb, g2.trans l2.1, g3.trans e73⟩
  · intro K i σ a1 q r k13 hR R2 p2 R1 p1 h73
    obtain ⟨f2, l2⟩ := p2
    have hb := big _ hR.1.2.2.1
    have e73 := (l2.2.2.2.2 h73).1
    obtain ⟨g1, g2, g3⟩ := p1 (by show q.2.1.1.2.1 73 (sqK K) ≠ -1; rw [e73]; exact h73)
    have v1 : npS σ ≤ npS q.2.1 := R2.2.1.1.1
    have v2 : σ.1.1 4 ≤ q.2.1.1.1 4 := R2.2.1.1.2.1
    have g1 : FrK q.2.1.1.2.1 r.2.1.1.2.1 (40 * m + npS q.2.1) (q.2.1.1.1 4) (sqK K) := g1
    exact ⟨f2.two l2 g1 (by omega) v2 hb, g2.trans l2.1, g3.trans e73⟩
  · intro K i σ a1 k13 hR h73
    exact ⟨⟨fun _ _ _ _ _ _ => rfl, fun _ _ _ => rfl⟩, rfl, rfl⟩
  · intro K i σ u eo ko el hH hR
    exact fr_bg h4 hR ((KpK.hd hH.1).tr KpK.fi (Nat.le_refl _) (Nat.le_refl _)) rfl
  · intro K i σ h q eo k17 eh hH R3 p3 hR
    obtain ⟨n1, n2, -⟩ := bg_n (m := m) (σ := σ) (k := tK b n i) (pl := tP b n i) (q := sqK K) (d := K.length) (wh := whK (tK b n i) (tC b n i) τ)
    have e4 : h.2.1.1.1 4 = σ.1.1 4 := by rw [hH.1]; exact n2
    have en : npS h.2.1 = npS σ + 1 := by rw [← n1]; unfold npS; rw [hH.1]
    have kr := KpK.rn (σ := h.2.1) (p := 40 * m + npS σ) (B := 40 * m + (npS σ + 1))
    have wn := rw_n (σ := h.2.1) (p := 40 * m + npS σ) (q0 := none)
    have f3 := p3 kr.2
    rw [wn.1, wn.2.1, en] at f3
    have k3 := f3.kp (r1 := σ.1.1 4) kr.2 (by omega) (by omega)
    have kr1 := kr.1
    rw [e4] at kr1
    refine fr_bg h4 hR ((((KpK.hd hH).tr kr1 (Nat.le_refl _) (Nat.le_refl _)).tr k3 (by omega) (Nat.le_refl _)).tr (KpK.fi (σ := guP q.2.1 (giS σ ||| giS q.2.1) (usS σ ||| usS q.2.1))) (Nat.le_refl _) (Nat.le_refl _)) rfl
  · intro K i σ h q u eo ko k17 kc eh hH R0 p0 et hN hR
    obtain ⟨n1, n2, -⟩ := bg_n (m := m) (σ := σ) (k := tK b n i) (pl := tP b n i) (q := sqK K) (d := K.length) (wh := whK (tK b n i) (tC b n i) τ)
    have e4 : h.2.1.1.1 4 = σ.1.1 4 := by rw [hH.1]; exact n2
    have en : npS h.2.1 = npS σ + 1 := by rw [← n1]; unfold npS; rw [hH.1]
    have kr := KpK.rn (σ := h.2.1) (p := 40 * m + npS σ) (B := 40 * m + (npS σ + 1))
    have wn := rw_n (σ := h.2.1) (p := 40 * m + npS σ) (q0 := none)
    obtain ⟨f3, -, -⟩ := p0 kr.2
    rw [wn.1, wn.2.1, en] at f3
    have k3 := f3.kp (r1 := σ.1.1 4) kr.2 (by omega) (by show _ ≤ h.2.1.1.1 4; omega)
    have kr1 := kr.1
    rw [e4] at kr1
    exact fr_bg h4 hR (((((KpK.hd hH).tr kr1 (Nat.le_refl _) (Nat.le_refl _)).tr k3 (by omega) (Nat.le_refl _)).tr (KpK.hd hN.1) (Nat.le_refl _) (Nat.le_refl _)).tr KpK.fi (Nat.le_refl _) (Nat.le_refl _)) rfl
  · intro K i σ h q t u eo ko kc eh hH R0 p0 k46 R4 p4 ec hN hR
    obtain ⟨n1, n2, -⟩ := bg_n (m := m) (σ := σ) (k := tK b n i) (pl := tP b n i) (q := sqK K) (d := K.length) (wh := whK (tK b n i) (tC b n i) τ)
    have e4 : h.2.1.1.1 4 = σ.1.1 4 := by rw [hH.1]; exact n2
    have en : npS h.2.1 = npS σ + 1 := by rw [← n1]; unfold npS; rw [hH.1]
    have kr := KpK.rn (σ := h.2.1) (p := 40 * m + npS σ) (B := 40 * m + (npS σ + 1))
    have wn := rw_n (σ := h.2.1) (p := 40 * m + npS σ) (q0 := none)
    obtain ⟨f3, -, -⟩ := p0 kr.2
    rw [wn.1, wn.2.1, en] at f3
    have k3 := f3.kp (r1 := σ.1.1 4) kr.2 (by omega) (by show _ ≤ h.2.1.1.1 4; omega)
    have kr1 := kr.1
    rw [e4] at kr1
    have v1 : npS (rwP (40 * m + npS σ) none h.2.1) ≤ npS q.2.1 := R0.2.1.1.1
    have v2 : (rwP (40 * m + npS σ) none h.2.1).1.1 4 ≤ q.2.1.1.1 4 := R0.2.1.1.2.1
    rw [wn.1, en] at v1
    rw [wn.2.1, e4] at v2
    have ks := KpK.rs (σ := q.2.1) (p := 40 * m + npS σ) (q := h.2.1.1.1 4) (B := 40 * m + (npS σ + 1)) (r := σ.1.1 4) (by omega) (by omega)
    have w2 := rw_n (σ := q.2.1) (p := 40 * m + npS σ) (q0 := some (h.2.1.1.1 4))
    obtain ⟨f5, -, -⟩ := p4 rs_lk.2.2
    rw [w2.1, w2.2.1] at f5
    have k5 := f5.kp (r1 := σ.1.1 4) rs_lk.2.2 (by omega) (by show _ ≤ q.2.1.1.1 4; omega)
    exact fr_bg h4 hR (((((((KpK.hd hH).tr kr1 (Nat.le_refl _) (Nat.le_refl _)).tr k3 (by omega) (Nat.le_refl _)).tr ks (Nat.le_refl _) (Nat.le_refl _)).tr k5 (by omega) (Nat.le_refl _)).tr (KpK.hd hN.1) (Nat.le_refl _) (Nat.le_refl _)).tr KpK.fi (Nat.le_refl _) (Nat.le_refl _)) rfl
  · intro K i σ h q u eo ko kc eh hH R0 p0 k46 ec hN hR
    obtain ⟨n1, n2, -⟩ := bg_n (m := m) (σ := σ) (k := tK b n i) (pl := tP b n i) (q := sqK K) (d := K.length) (wh := whK (tK b n i) (tC b n i) τ)
    have e4 : h.2.1.1.1 4 = σ.1.1 4 := by rw [hH.1]; exact n2
    have en : npS h.2.1 = npS σ + 1 := by rw [← n1]; unfold npS; rw [hH.1]
    have kr := KpK.rn (σ := h.2.1) (p := 40 * m + npS σ) (B := 40 * m + (npS σ + 1))
    have wn := rw_n (σ := h.2.1) (p := 40 * m + npS σ) (q0 := none)
    obtain ⟨f3, -, -⟩ := p0 kr.2
    rw [wn.1, wn.2.1, en] at f3
    have k3 := f3.kp (r1 := σ.1.1 4) kr.2 (by omega) (by show _ ≤ h.2.1.1.1 4; omega)
    have kr1 := kr.1
    rw [e4] at kr1
    exact fr_bg h4 hR (((((KpK.hd hH).tr kr1 (Nat.le_refl _) (Nat.le_refl _)).tr k3 (by omega) (Nat.le_refl _)).tr (KpK.hd (σ := trP1 q.2.1 (mkT (trS q.2.1) 0).1) hN.1) (Nat.le_refl _) (Nat.le_refl _)).tr KpK.fi (Nat.le_refl _) (Nat.le_refl _)) rfl
  · intro K i σ a1 a2 a3 a4 c1 c2 q r hR R0 p0 k6 k8 R3 p3 h73
    obtain ⟨f0, -, -⟩ := p0 h73
    have f0 : FrK σ.1.2.1 q.2.1.1.2.1 (40 * m + npS σ) (σ.1.1 4) a3 := f0
    have bn := br_n (σ := q.2.1) (j := a2) (a := a1) (x := q.2.2) (g := c1) (u := c2)
    have v1 : npS σ ≤ npS q.2.1 := R0.2.1.1.1
    have v2 : σ.1.1 4 ≤ q.2.1.1.1 4 := R0.2.1.1.2.1
    have hl := rs_lk (σ := brP q.2.1 a2 a1 q.2.2 c1 c2) (p := 40 * m + a2) (q := a3)
    have wn := rw_n (σ := brP q.2.1 a2 a1 q.2.2 c1 c2) (p := 40 * m + a2) (q0 := some a3)
    obtain ⟨l1, l2, l3⟩ := hl
    rw [bn.1] at l1 l2 l3
    have f3 := p3 l3
    have en : npS (brP q.2.1 a2 a1 q.2.2 c1 c2) = npS q.2.1 := by unfold npS; rw [bn.1]
    rw [wn.1, wn.2.1, en, bn.1] at f3
    have k3 := f3.kp (r1 := σ.1.1 4) l3 (by omega) (by omega)
    refine ⟨fun c y h1 h2 h3 h5 => ?_, fun x h1 h2 => ?_⟩
    · rw [k3.1 c y h1 h2 h3, l1 c y h1 h2 (by omega) (fun z => h5 z.2)]
      exact f0.1 c y h1 h2 h3 h5
    · rw [k3.2 x (by omega), l2 x]
      exact f0.2 x h1 h2
  · intro K i σ a1 a2 a3 a4 c1 c2 q hR R0 p0 k6 h73
    obtain ⟨f0, -, -⟩ := p0 h73
    have f0 : FrK σ.1.2.1 q.2.1.1.2.1 (40 * m + npS σ) (σ.1.1 4) a3 := f0
    have bn := br_n (σ := q.2.1) (j := a2) (a := a1) (x := q.2.2) (g := c1) (u := c2)
    show FrK σ.1.2.1 (brP q.2.1 a2 a1 q.2.2 c1 c2).1.2.1 _ _ _
    rw [bn.1]
    exact f0
end
