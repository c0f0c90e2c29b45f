/-! how many pauses and outputs a module has -/
section
variable {b : Nat → Int32} {n m : Nat} {τ : Td} {j i o f1 f2 fo x aw lit y : Nat} {k : Int32} {w : Int64} {K : List KE} {σ σ1 σ2 : PS}
/-- counters the same, at least q pauses more -/
def Cz (q : Nat) (σ σ' : PS) : Prop := σ'.1.1 = σ.1.1 ∧ (trS σ).2.1 + q ≤ (trS σ').2.1
theorem Sx.cz {q : Nat} {r : TrT} (h : Sx σ σ1) (g : r.2.1 = (trS σ1).2.1 + q) : Cz q σ (trP1 σ1 r) := ⟨h.1, by rw [h.2] at g; exact Nat.le_of_eq g.symm⟩
theorem Cz.mo {q q1 : Nat} (h : Cz q σ σ1) (g : q1 ≤ q) : Cz q1 σ σ1 := ⟨h.1, by have := h.2; omega⟩
theorem Cz.al {q R : Nat} (h : Cz q σ σ1) (g : σ.1.1 1 ≤ (trS σ).2.1 + (R + q)) : σ1.1.1 1 ≤ (trS σ1).2.1 + R := by
  rw [h.1]
  have := h.2
  omega
theorem pa_0 (h1 : k ≠ 53) (h2 : k ≠ 38) (h3 : k ≠ 39) (h4 : k ≠ 41) (h5 : k ≠ 47) (h6 : k ≠ 49) (h7 : k ≠ 50) : paK k ≤ 0 := by
  unfold paK
  rw [if_neg h1, if_neg (fun z => by rcases z with z | z | z | z | z | z <;> first | exact h2 z | exact h3 z | exact h4 z | exact h5 z | exact h6 z | exact h7 z)]
  exact Nat.le_refl _
theorem hp_0 (h1 : k ≠ 53) : hpK k = 0 := by unfold hpK; exact if_neg h1
theorem op_n (h : opnK k = false) : k ≠ 53 ∧ k ≠ 49 ∧ k ≠ 50 := by
  refine ⟨fun z => ?_, fun z => ?_, fun z => ?_⟩ <;> (rw [z] at h; exact absurd h (by decide))
theorem op_y (h : ¬ opnK k = false) : k ≠ 38 ∧ k ≠ 39 ∧ k ≠ 41 ∧ k ≠ 47 := by
  refine ⟨fun z => ?_, fun z => ?_, fun z => ?_, fun z => ?_⟩ <;> exact h (by rw [z]; decide)
theorem Sx.cy {r : TrT} (h : Sx σ σ1) (g : r.2.1 = (trS σ1).2.1) : Cz 0 σ (trP1 σ1 r) := ⟨h.1, by rw [h.2] at g; exact Nat.le_of_eq g.symm⟩
theorem lf_z {r : Nat × PS × Nat} (e : lfM b n m τ k w j i K σ = .ok r) (ko : opnK k = false) : Cz (paK k) σ r.2.1 := by
  unfold lfM at e
  by_cases k1 : k = 38
  · rw [if_pos k1] at e; cases e; exact (Sx.rf.cz nq_pa).mo (by rw [k1]; decide)
  rw [if_neg k1] at e
  by_cases k2 : k = 39
  · rw [if_pos k2] at e; cases e; exact (Sx.rf.cz nq_ha).mo (by rw [k2]; decide)
  rw [if_neg k2] at e
  by_cases k3 : k = 40
  · rw [if_pos k3] at e
    obtain ⟨y, e1, e⟩ := bind_ok e
    cases e; exact ((em_x e1).cy nq_em).mo (by rw [k3]; decide)
  rw [if_neg k3] at e
  by_cases k4 : k = 41
  · rw [if_pos k4] at e
    obtain ⟨y, e1, e⟩ := bind_ok e
    cases e; exact ((em_x e1).cz nq_st).mo (by rw [k4]; decide)
  rw [if_neg k4] at e
  by_cases k5 : k = 47
  · rw [if_pos k5] at e
    obtain ⟨y, e1, e⟩ := bind_ok e
    cases e; exact ((at_x e1).cz nq_aw).mo (by rw [k5]; decide)
  rw [if_neg k5] at e
  by_cases k6 : k = 57
  · rw [if_pos k6] at e
    by_cases h1 : tK b n i = 2
    · rw [if_pos h1] at e
      cases h2 : trW K (tC b n i) with
      | none => rw [h2] at e; cases e
      | some q =>
        rw [h2] at e
        obtain ⟨i2, -, e⟩ := bind_ok e
        cases e; exact (Sx.cy (σ1 := raP σ (up2 σ.1.2.1 60 (40 * m + j) (Int32.ofNat q.2))) ⟨rfl, rfl⟩ nq_ex).mo (by rw [k6]; decide)
    · rw [if_neg h1] at e; cases e
  rw [if_neg k6] at e
  by_cases k7 : k = 2
  · rw [if_pos k7] at e
    obtain ⟨i2, -, e⟩ := bind_ok e
    obtain ⟨y, e1, e⟩ := bind_ok e
    have q := su_x e1
    cases e; exact (Sx.cy (σ := σ) ⟨q.1, q.2⟩ nq_mk).mo (by rw [k7]; decide)
  rw [if_neg k7] at e
  cases e; exact (Sx.rf.cy nq_mk).mo (pa_0 (op_n ko).1 k1 k2 k4 k5 (op_n ko).2.1 (op_n ko).2.2)
theorem hd_z {r : Nat × PS × Nat × Bool × Nat × Option Int64} (e : hdM b n m τ k j i K σ = .ok r) : Cz (hpK k) σ r.2.1 := by
  unfold hdM at e
  by_cases k1 : k = 44
  · rw [if_pos k1] at e
    obtain ⟨y, e1, e⟩ := bind_ok e
    obtain ⟨i2, -, e⟩ := bind_ok e
    have q := co_x e1
    cases e; exact ⟨q.1, by rw [q.2, hp_0 (by rw [k1]; decide)]; exact Nat.le_refl _⟩
  rw [if_neg k1] at e
  by_cases k2 : k = 49
  · rw [if_pos k2] at e; cases e; exact ⟨rfl, by rw [hp_0 (by rw [k2]; decide)]; exact Nat.le_refl _⟩
  rw [if_neg k2] at e
  by_cases k3 : k = 50
  · rw [if_pos k3] at e
    obtain ⟨i2, -, e⟩ := bind_ok e
    cases e; exact ⟨rfl, by rw [hp_0 (by rw [k3]; decide)]; exact Nat.le_refl _⟩
  rw [if_neg k3] at e
  by_cases k4 : k = 53
  · rw [if_pos k4] at e
    obtain ⟨y, e1, e⟩ := bind_ok e
    obtain ⟨i2, -, e⟩ := bind_ok e
    cases e; exact ((at_x e1).cz nq_aw).mo (by rw [k4]; decide)
  rw [if_neg k4] at e
  by_cases k5 : k = 55
  · rw [if_pos k5] at e
    by_cases h1 : tK b n i = 2
    · rw [if_pos h1] at e
      by_cases h2 : toT (tC b n i) τ = true ∨ (trW K (tC b n i)).isSome = true
      · rw [if_pos h2] at e; cases e
      rw [if_neg h2] at e
      obtain ⟨i2, -, e⟩ := bind_ok e
      obtain ⟨i3, -, e⟩ := bind_ok e
      cases e; exact ⟨rfl, by rw [hp_0 (by rw [k5]; decide)]; exact Nat.le_refl _⟩
    · rw [if_neg h1] at e; cases e
  rw [if_neg k5] at e
  by_cases k6 : k = 58
  · rw [if_pos k6] at e
    obtain ⟨y, e1, e⟩ := bind_ok e
    have q := su_x e1
    by_cases h1 : 7 ≤ tK b n y.1 ∧ tK b n y.1 ≤ 12
    · rw [if_pos h1] at e
      obtain ⟨i2, -, e⟩ := bind_ok e
      obtain ⟨z, e2, e⟩ := bind_ok e
      obtain ⟨i3, -, e⟩ := bind_ok e
      have q2 := su_x e2
      have g1 : z.2.1.1 = σ.1.1 := q2.1.trans q.1
      have g2 : trS z.2 = trS σ := q2.2.trans q.2
      cases e; exact ⟨g1, by rw [hp_0 (by rw [k6]; decide)]; exact Nat.le_of_eq (congrArg (fun t : TrT => t.2.1) g2).symm⟩
    · rw [if_neg h1] at e; cases e
  rw [if_neg k6] at e
  by_cases k7 : k = 17
  · rw [if_pos k7] at e
    cases e; exact (Sx.rf.cy nq_mk).mo (by rw [k7]; decide)
  rw [if_neg k7] at e
  cases e; exact ⟨rfl, by rw [hp_0 k4]; exact Nat.le_refl _⟩
theorem tl_z {r : Nat × PS × Nat} {q : Nat} (e : tlM b n m τ k j aw lit x i o σ = .ok r) (ko : ¬ opnK k = false) (hq : q + hpK k ≤ paK k) : Cz q σ r.2.1 := by
  unfold tlM at e
  obtain ⟨n1, n2, n3, n4⟩ := op_y ko
  by_cases k1 : k = 42
  · rw [if_pos k1] at e
    have hq : q ≤ 0 := by rw [k1] at hq; exact hq
    obtain ⟨i2, -, e⟩ := bind_ok e
    cases e
    by_cases h1 : (trS σ).2.2 13 x &&& 1 = 0
    · rw [if_pos h1]; exact (Sx.rf.cy nq_wr).mo (by omega)
    · rw [if_neg h1]; exact (Sx.cy (σ := σ) (σ1 := paP σ j 2 7) ⟨rfl, rfl⟩ nq_wr).mo (by omega)
  rw [if_neg k1] at e
  by_cases k2 : k = 49
  · rw [if_pos k2] at e
    have hq : q ≤ 1 := by rw [k2] at hq; exact hq
    obtain ⟨i2, -, e⟩ := bind_ok e
    obtain ⟨y, e1, e⟩ := bind_ok e
    obtain ⟨i3, -, e⟩ := bind_ok e
    have g := at_x e1
    by_cases h1 : y.2.2.2 = true
    · rw [if_pos h1] at e
      have b1 := nq_ab (Θ := trS y.2.1) (c := x) (l := Int32.ofNat y.2.2.1)
      have b2 := nq_mk (Θ := (abT (trS y.2.1) x (Int32.ofNat y.2.2.1)).1) (k := 0)
      have b3 := nq_ch (Θ := (mkT (abT (trS y.2.1) x (Int32.ofNat y.2.2.1)).1 0).1) (l := Int32.ofNat y.2.2.1) (c := (mkT (abT (trS y.2.1) x (Int32.ofNat y.2.2.1)).1 0).2) (d := (abT (trS y.2.1) x (Int32.ofNat y.2.2.1)).2)
      cases e
      exact (g.cz (q := 1) (by omega)).mo hq
    · rw [if_neg h1] at e
      cases e
      exact (g.cz nq_ab).mo (by omega)
  rw [if_neg k2] at e
  by_cases k3 : k = 50
  · rw [if_pos k3] at e
    have hq : q ≤ 1 := by rw [k3] at hq; exact hq
    obtain ⟨i2, -, e⟩ := bind_ok e
    obtain ⟨y, e1, e⟩ := bind_ok e
    obtain ⟨i3, -, e⟩ := bind_ok e
    cases e
    exact ((at_x e1).cz nq_wk).mo (by omega)
  rw [if_neg k3] at e
  by_cases k4 : k = 52
  · rw [if_pos k4] at e
    have hq : q ≤ 0 := by rw [k4] at hq; exact hq
    obtain ⟨i2, -, e⟩ := bind_ok e
    obtain ⟨y, e1, e⟩ := bind_ok e
    obtain ⟨i3, -, e⟩ := bind_ok e
    cases e
    exact ((co_x e1).cy nq_su).mo (by omega)
  rw [if_neg k4] at e
  by_cases k5 : k = 53
  · rw [if_pos k5] at e
    have hq : q + 1 ≤ 3 := by rw [k5] at hq; exact hq
    obtain ⟨i2, -, e⟩ := bind_ok e
    cases e
    exact (Sx.rf.cz nq_ev).mo (by omega)
  rw [if_neg k5] at e
  obtain ⟨i2, -, e⟩ := bind_ok e
  cases e
  have p0 := pa_0 k5 n1 n2 n3 n4 k2 k3
  exact (Sx.rf.cy nq_wr).mo (by omega)
theorem ch_z {r : Nat × PS × Nat} (e : chM b n lit x y i σ = .ok r) : Cz 0 σ r.2.1 := by
  unfold chM at e
  obtain ⟨i2, -, e⟩ := bind_ok e
  cases e
  exact Sx.rf.cy nq_ch
/-- as many pauses in the tree as counted -/
theorem rp_pa2 : ∀ (g md : Nat) (K : List KE) (i : Nat) (σ : PS) (a1 a2 a3 a4 : Nat) (c1 c2 : Int32) (r : Nat × PS × Nat), md ≤ 3 → rp b n m τ g md K i σ a1 a2 a3 a4 c1 c2 = .ok r → ∀ R, σ.1.1 1 ≤ (trS σ).2.1 + R → r.2.1.1.1 1 ≤ (trS r.2.1).2.1 + R := by
  intro g
  induction g with
  | zero => intro md K i σ a1 a2 a3 a4 c1 c2 r _ e; unfold rp at e; cases e
  | succ g ih =>
    intro md K i σ a1 a2 a3 a4 c1 c2 r hm e R hR
    by_cases m2 : md = 2
    · subst m2
      rw [rp_bd] at e
      obtain ⟨u0, -, e⟩ := bind_ok e
      obtain ⟨i1, -, e⟩ := bind_ok e
      obtain ⟨u, eb, e⟩ := bind_ok e
      cases e
      show u.2.1.1.1 1 ≤ (trS u.2.1).2.1 + R
      generalize tK b n i = k at eb
      generalize tC b n i = w at eb
      generalize npS σ = j at eb
      have q1 := pb_bg (m := m) (σ := σ) (k := k) (pl := tP b n i) (q := sqK K) (d := K.length) (wh := whK k w τ)
      generalize bgP m k (tP b n i) (sqK K) K.length (whK k w τ) σ = s0 at eb q1
      have hR0 : s0.1.1 1 ≤ (trS s0).2.1 + (R + paK k) := by rw [q1.1, q1.2]; omega
      unfold bdM at eb
      by_cases ko : opnK k = false
      · rw [if_pos ko] at eb
        exact (lf_z eb ko).al hR0
      rw [if_neg ko] at eb
      obtain ⟨h, eh, eb⟩ := bind_ok eb
      have hp := hp_pa k
      obtain ⟨Q, hQ⟩ : ∃ Q, Q + hpK k = paK k := ⟨paK k - hpK k, by omega⟩
      have hR1 : h.2.1.1.1 1 ≤ (trS h.2.1).2.1 + (R + Q) := (hd_z eh).al (by omega)
      have q2 := pb_rw (σ := h.2.1) (p := 40 * m + j) (q0 := none)
      have hR2 : (rwP (40 * m + j) none h.2.1).1.1 1 ≤ (trS (rwP (40 * m + j) none h.2.1)).2.1 + (R + Q) := by rw [q2.1, q2.2]; exact hR1
      by_cases k17 : k = 17
      · rw [if_pos k17] at eb
        obtain ⟨q, e1, eb⟩ := bind_ok eb
        cases eb
        have := ih 3 _ _ _ _ _ _ _ _ _ q (by decide) e1 (R + Q) hR2
        show q.2.1.1.1 1 ≤ (trS q.2.1).2.1 + R
        have p0 : paK k ≤ 0 := by rw [k17]; decide
        omega
      rw [if_neg k17] at eb
      obtain ⟨q, e1, eb⟩ := bind_ok eb
      have hq := ih 0 _ _ _ _ _ _ _ _ _ q (by decide) e1 (R + Q) hR2
      by_cases k4 : k = 44 ∨ k = 58
      · rw [if_pos k4] at eb
        have p0 : paK k ≤ 0 := by rcases k4 with z | z <;> (rw [z]; decide)
        by_cases k46 : tK b n q.1 = 46
        · rw [if_pos k46] at eb
          obtain ⟨i2, -, eb⟩ := bind_ok eb
          obtain ⟨t, e2, eb⟩ := bind_ok eb
          have q3 := pb_rw (σ := q.2.1) (p := 40 * m + j) (q0 := some (h.2.1.1.1 4))
          have ht := ih 0 _ _ _ _ _ _ _ _ _ t (by decide) e2 (R + Q) (by rw [q3.1, q3.2]; exact hq)
          exact (ch_z eb).al (by omega)
        · rw [if_neg k46] at eb
          have c1 : Cz 0 q.2.1 (trP1 q.2.1 (mkT (trS q.2.1) 0).1) := Sx.rf.cy nq_mk
          exact (ch_z eb).al (c1.al (by omega))
      rw [if_neg k4] at eb
      exact (tl_z eb ko (by omega)).al hq
    by_cases m0 : md = 0
    · subst m0
      unfold rp at e
      rw [if_pos rfl] at e
      obtain ⟨q, e1, e⟩ := bind_ok e
      have c1 : Cz 0 σ (trP1 σ (mkT (trS σ) 5).1) := Sx.rf.cy nq_mk
      have hq := ih 2 _ _ _ _ _ _ _ _ _ q (by decide) e1 R (c1.al (by omega))
      exact ih 1 _ _ _ _ _ _ _ _ _ r (by decide) e R (by show q.2.1.1.1 1 ≤ (hgT _ _ _).2.1 + _; rw [hgT_n.2]; exact hq)
    by_cases m1 : md = 1
    · subst m1
      unfold rp at e
      rw [if_neg (by decide), if_pos rfl] at e
      by_cases h13 : tK b n i = 13
      · rw [if_pos h13] at e
        obtain ⟨j, -, e⟩ := bind_ok e
        obtain ⟨q, e1, e⟩ := bind_ok e
        have hq := ih 2 _ _ _ _ _ _ _ _ _ q (by decide) e1 R hR
        exact ih 1 _ _ _ _ _ _ _ _ _ r (by decide) e R (by show q.2.1.1.1 1 ≤ (hgT _ _ _).2.1 + _; rw [hgT_n.2]; exact hq)
      · rw [if_neg h13] at e; cases e; exact hR
    · have m3 : md = 3 := by omega
      subst m3
      unfold rp at e
      rw [if_neg m0, if_neg m1, if_neg m2] at e
      obtain ⟨q, e1, e⟩ := bind_ok e
      have hq := ih 0 _ _ _ _ _ _ _ _ _ q (by decide) e1 R hR
      have bn := br_q (σ := q.2.1) (j := a2) (a := a1) (x := q.2.2) (g := c1) (u := c2)
      by_cases h6 : tK b n q.1 = 6
      · rw [if_pos h6] at e
        by_cases h8 : a4 = 8
        · rw [if_pos h8] at e; cases e
        rw [if_neg h8] at e
        obtain ⟨j, -, e⟩ := bind_ok e
        have q3 := pb_rw (σ := brP q.2.1 a2 a1 q.2.2 c1 c2) (p := 40 * m + a2) (q0 := some a3)
        exact ih 3 _ _ _ _ _ _ _ _ _ r (by decide) e R (by rw [q3.1, q3.2, bn.2, bn.1]; exact hq)
      · rw [if_neg h6] at e
        obtain ⟨j, -, e⟩ := bind_ok e
        cases e
        show (brP q.2.1 a2 a1 q.2.2 c1 c2).1.1 1 ≤ (trS (brP q.2.1 a2 a1 q.2.2 c1 c2)).2.1 + R
        rw [bn.2, bn.1]; exact hq
end
section
variable {b : Nat → Int32} {n s m : Nat} {A : Nat → Nat → Int32} {B : Nat → Int64} {Zt : Nat → Nat → Int32} {r : Nat × Td × PS × Nat}
theorem rdm_pa2 (e : rdM b n m A B Zt = .ok r) : (trS r.2.2.1).2.1 = r.2.2.1.1.1 1 := by
  unfold rdM at e
  by_cases k0 : tK b n 0 = 0
  · rw [if_pos k0] at e; cases e
  rw [if_neg k0] at e
  obtain ⟨q, et, e⟩ := bind_ok e
  obtain ⟨p, eq, e⟩ := bind_ok e
  cases e
  unfold rdQ at eq
  obtain ⟨u, eu, ep⟩ := bind_ok eq
  have up : u = p := by
    by_cases z : tK b n u.1 = 1
    · rw [if_pos z] at ep; cases ep; rfl
    · rw [if_neg z] at ep; cases ep
  subst up
  have p1 := rp_pau 6000 0 [] q.1 (σI A B (cl0 Zt q.2)) 0 0 0 0 0 0 u (by decide) eu 0 (Nat.le_refl 0)
  have p2 := rp_pa2 6000 0 [] q.1 (σI A B (cl0 Zt q.2)) 0 0 0 0 0 0 u (by decide) eu 0 (Nat.le_refl 0)
  exact Nat.le_antisymm p1 p2
end
/-! counting bits -/
def frc : Nat → (Nat → Bool) → Bool
  | 0, k => k 0
  | n + 1, k => k (n + 1)
theorem frc_eq (n : Nat) (k : Nat → Bool) : frc n k = k n := by cases n <;> rfl
def pn1 (x : Nat) : Nat := (4294967296 - ((x >>> 1) &&& 1431655765) + x) % 4294967296
def pn2 (y : Nat) : Nat := ((y &&& 858993459) + ((y >>> 2) &&& 858993459)) % 4294967296
def pn3 (y : Nat) : Nat := ((y + (y >>> 4)) % 4294967296) &&& 252645135
def pn4 (y : Nat) : Nat := (y + (y >>> 8)) % 4294967296
def pn5 (y : Nat) : Nat := ((y + (y >>> 16)) % 4294967296) &&& 63
def pcN (x : Nat) : Nat := pn5 (pn4 (pn3 (pn2 (pn1 x))))
def pck : Nat → Nat → Nat → Bool
  | 0, x, c => frc (pn1 x) (fun a => frc (pn2 a) (fun b => frc (pn3 b) (fun d => frc (pn4 d) (fun e => Nat.beq (pn5 e) c))))
  | d + 1, x, c => frc (x + 2 ^ d) (fun y => pck d x c && pck d y (c + 1))
theorem pck16 : pck 16 0 0 = true := by decide +kernel
def smB (p : Nat → Bool) : Nat → Nat
  | 0 => 0
  | d + 1 => smB p d + (if p d = true then 2 ^ d else 0)
def ctB (p : Nat → Bool) : Nat → Nat
  | 0 => 0
  | d + 1 => ctB p d + (if p d = true then 1 else 0)
theorem pck_s (p : Nat → Bool) : ∀ (d x c : Nat), pck d x c = true → pcN (x + smB p d) = c + ctB p d
  | 0, x, c, h => by
    unfold pck at h
    rw [frc_eq, frc_eq, frc_eq, frc_eq] at h
    exact Nat.eq_of_beq_eq_true h
  | d + 1, x, c, h => by
    unfold pck at h
    rw [frc_eq, Bool.and_eq_true] at h
    show pcN (x + (smB p d + (if p d = true then 2 ^ d else 0))) = c + (ctB p d + (if p d = true then 1 else 0))
    by_cases z : p d = true
    · have q := pck_s p d (x + 2 ^ d) (c + 1) h.2
      rw [if_pos z, if_pos z, show x + (smB p d + 2 ^ d) = x + 2 ^ d + smB p d by omega, q]
      omega
    · have q := pck_s p d x c h.1
      rw [if_neg z, if_neg z]
      exact q
theorem pck_le {x c : Nat} : ∀ (e d : Nat), pck (d + e) x c = true → pck d x c = true
  | 0, _, h => h
  | e + 1, d, h => by
    have h : pck ((d + e) + 1) x c = true := h
    unfold pck at h
    rw [frc_eq, Bool.and_eq_true] at h
    exact pck_le e d h.1
theorem ush_1 {x : Int32} : (ush x 1).toBitVec = x.toBitVec >>> 1 := rfl
theorem ush_2 {x : Int32} : (ush x 2).toBitVec = x.toBitVec >>> 2 := rfl
theorem ush_4 {x : Int32} : (ush x 4).toBitVec = x.toBitVec >>> 4 := rfl
theorem ush_8 {x : Int32} : (ush x 8).toBitVec = x.toBitVec >>> 8 := rfl
theorem ush_16 {x : Int32} : (ush x 16).toBitVec = x.toBitVec >>> 16 := rfl
theorem bc1_n {x : Int32} : (bc1 x).toBitVec.toNat = pn1 x.toBitVec.toNat := by
  unfold bc1 pn1
  rw [Int32.toBitVec_sub, BitVec.toNat_sub, Int32.toBitVec_and, BitVec.toNat_and, ush_1, BitVec.toNat_ushiftRight]
  rfl
theorem bc2_n {x : Int32} : (bc2 x).toBitVec.toNat = pn2 (bc1 x).toBitVec.toNat := by
  unfold bc2 pn2
  rw [Int32.toBitVec_add, BitVec.toNat_add, Int32.toBitVec_and, BitVec.toNat_and, Int32.toBitVec_and, BitVec.toNat_and, ush_2, BitVec.toNat_ushiftRight]
  rfl
theorem bc3_n {x : Int32} : (bc3 x).toBitVec.toNat = pn3 (bc2 x).toBitVec.toNat := by
  unfold bc3 pn3
  rw [Int32.toBitVec_and, BitVec.toNat_and, Int32.toBitVec_add, BitVec.toNat_add, ush_4, BitVec.toNat_ushiftRight]
  rfl
theorem bc4_n {x : Int32} : (bc4 x).toBitVec.toNat = pn4 (bc3 x).toBitVec.toNat := by
  unfold bc4 pn4
  rw [Int32.toBitVec_add, BitVec.toNat_add, ush_8, BitVec.toNat_ushiftRight]
theorem bcV_n {x : Int32} : (bcV x).toBitVec.toNat = pcN x.toBitVec.toNat := by
  unfold bcV pcN pn5
  rw [Int32.toBitVec_and, BitVec.toNat_and, Int32.toBitVec_add, BitVec.toNat_add, ush_16, BitVec.toNat_ushiftRight, bc4_n, bc3_n, bc2_n, bc1_n]
  rfl
theorem smB_lt {p : Nat → Bool} : ∀ d, smB p d < 2 ^ d
  | 0 => by show (0 : Nat) < 1; decide
  | d + 1 => by
    have ih := smB_lt (p := p) d
    show smB p d + (if p d = true then 2 ^ d else 0) < 2 ^ (d + 1)
    rw [Nat.pow_succ]
    split <;> omega
theorem ctB_le {p : Nat → Bool} : ∀ d, ctB p d ≤ d
  | 0 => Nat.le_refl _
  | d + 1 => by
    have ih := ctB_le (p := p) d
    show ctB p d + (if p d = true then 1 else 0) ≤ d + 1
    split <;> omega
def omF (ro : List Int32) (n : Nat) : Int32 := (List.range n).foldl (fun a k => if ro.getD k 0 = 31 then a ||| ((1 : Int32) <<< (Int32.ofNat k &&& 31)) else a) 0
theorem omF_n {ro : List Int32} : ∀ n, n ≤ 16 → (omF ro n).toBitVec.toNat = smB (fun i => decide (ro.getD i 0 = 31)) n
  | 0, _ => rfl
  | n + 1, hn => by
    have ih := omF_n (ro := ro) n (by omega)
    have lt := smB_lt (p := fun i => decide (ro.getD i 0 = 31)) n
    have e : omF ro (n + 1) = if ro.getD n 0 = 31 then omF ro n ||| ((1 : Int32) <<< (Int32.ofNat n &&& 31)) else omF ro n := by
      unfold omF
      rw [List.range_succ, List.foldl_append]
      rfl
    rw [e]
    show _ = smB (fun i => decide (ro.getD i 0 = 31)) n + (if decide (ro.getD n 0 = 31) = true then 2 ^ n else 0)
    by_cases z : ro.getD n 0 = 31
    · rw [if_pos z, if_pos (decide_eq_true z), Int32.toBitVec_or, BitVec.toNat_or, ih, shl_b (by omega), BitVec.toNat_shiftLeft]
      have e1 : (1 : Int32).toBitVec.toNat = 1 := rfl
      have lt2 : 2 ^ n < 2 ^ 32 := Nat.pow_lt_pow_right (by decide) (by omega)
      rw [e1, Nat.one_shiftLeft, Nat.mod_eq_of_lt lt2, Nat.or_comm]
      have q := Nat.two_pow_add_eq_or_of_lt lt 1
      rw [Nat.mul_one] at q
      omega
    · rw [if_neg z, if_neg (by rw [decide_eq_true_eq]; exact z), ih]
      rfl
theorem ctB_cg {p q : Nat → Bool} : ∀ n, (∀ i, i < n → p i = q i) → ctB p n = ctB q n
  | 0, _ => rfl
  | n + 1, h => by
    show ctB p n + (if p n = true then 1 else 0) = ctB q n + (if q n = true then 1 else 0)
    rw [ctB_cg n (fun i hi => h i (by omega)), h n (by omega)]
theorem cntO_c {f : Nat → Int32} {a : Nat} : ∀ n, cntO f a n = ctB (fun i => decide (f (a + i) = 1)) n
  | 0 => rfl
  | n + 1 => by
    show cntO f a n + (if f (a + n) = 1 then 1 else 0) = ctB (fun i => decide (f (a + i) = 1)) n + (if decide (f (a + n) = 1) = true then 1 else 0)
    rw [cntO_c n]
    by_cases z : f (a + n) = 1
    · rw [if_pos z, if_pos (decide_eq_true z)]
    · rw [if_neg z, if_neg (by rw [decide_eq_true_eq]; exact z)]
theorem s30_1 {x : Int32} : x - 30 = 1 ↔ x = 31 := by
  constructor
  · intro h
    have e : x - 30 + 30 = x := Int32.sub_add_cancel x 30
    rw [h] at e
    exact e.symm
  · intro h
    rw [h]; decide
/-- as many outputs on both sides -/
theorem bc_omk {ro : List Int32} {f : Nat → Int32} {a : Nat} (hl : ro.length ≤ 16) (hf : ∀ i, i < ro.length → f (a + i) = ro.getD i 0 - 30) : bcV (omk ro) = Int32.ofNat (cntO f a ro.length) := by
  have e1 : (omk ro).toBitVec.toNat = smB (fun i => decide (ro.getD i 0 = 31)) ro.length := omF_n ro.length hl
  have c16 : pck (ro.length + (16 - ro.length)) 0 0 = true := by rw [show ro.length + (16 - ro.length) = 16 by omega]; exact pck16
  have e2 := pck_s (fun i => decide (ro.getD i 0 = 31)) ro.length 0 0 (pck_le _ _ c16)
  have e3 : cntO f a ro.length = ctB (fun i => decide (ro.getD i 0 = 31)) ro.length := by
    rw [cntO_c]
    refine ctB_cg _ (fun i hi => ?_)
    rw [hf i hi]
    exact decide_eq_decide.mpr s30_1
  have le := ctB_le (p := fun i => decide (ro.getD i 0 = 31)) ro.length
  rw [Nat.zero_add, Nat.zero_add, ← e1, ← bcV_n, ← e3] at e2
  rw [← e3] at le
  refine Int32.toBitVec_inj.mp (BitVec.eq_of_toNat_eq ?_)
  rw [e2]
  show _ = (BitVec.ofNat 32 (cntO f a ro.length)).toNat
  rw [BitVec.toNat_ofNat, Nat.mod_eq_of_lt (by omega)]
