/-! how many pauses the parts make at most -/
section
variable {Θ : TrT} {c d v x aw : Nat} {k l : Int32} {im : Bool}
theorem nq_mk : (mkT Θ k).1.2.1 = Θ.2.1 := by unfold mkT; split <;> rfl
theorem nq_wr : (wrT Θ k c).1.2.1 = Θ.2.1 := hgT_n.2.trans nq_mk
theorem nq_pr : (prT Θ k c d).1.2.1 = Θ.2.1 := hgT_n.2.trans (hgT_n.2.trans nq_mk)
theorem nq_pa : (paT Θ).1.2.1 = Θ.2.1 + 1 := by show (mkT Θ 1).1.2.1 + 1 = _; rw [nq_mk]
theorem nq_em : (emT Θ v).1.2.1 = Θ.2.1 := nq_mk
theorem nq_ex : (exT Θ v).1.2.1 = Θ.2.1 := nq_mk
theorem nq_ch : (chT Θ l c d).1.2.1 = Θ.2.1 := nq_pr
theorem nq_su : (suT Θ c l).1.2.1 = Θ.2.1 := nq_wr
theorem nq_ha : (haT Θ).1.2.1 = Θ.2.1 + 1 := nq_wr.trans nq_pa
theorem nq_st : (stT Θ v).1.2.1 = Θ.2.1 + 1 := nq_wr.trans (nq_pr.trans (nq_pa.trans (congrArg (fun z => z + 1) nq_em)))
theorem nq_w1 : (wt1 Θ).1.2.1 = Θ.2.1 + 1 := nq_mk.trans (nq_ex.trans nq_pa)
theorem nq_w2 : (wt2 Θ l).1.2.1 = Θ.2.1 + 1 := nq_ch.trans nq_w1
theorem nq_w3 : (wt3 Θ l im).1.2.1 = Θ.2.1 + 1 := by
  cases im with
  | true => exact nq_pr.trans nq_w2
  | false => exact nq_pr.trans nq_w2
theorem nq_wa : (waT Θ l im).1.2.1 = Θ.2.1 + 1 := nq_wr.trans nq_w3
theorem nq_aw : (awT Θ l im).1.2.1 = Θ.2.1 + 1 := nq_wr.trans nq_wa
theorem nq_k1 : (wk1 Θ c).1.2.1 = Θ.2.1 := nq_pr.trans nq_ex
theorem nq_k2 : (wk2 Θ c l im).1.2.1 = Θ.2.1 + 1 := by
  have a : (wk2 Θ c l im).1.2.1 = (wk1 Θ c).1.2.1 + 1 := nq_wa
  rw [nq_k1] at a; exact a
theorem nq_wk : (wkT Θ c l im).1.2.1 = Θ.2.1 + 1 := nq_wr.trans (nq_pr.trans nq_k2)
theorem nq_ab : (abT Θ c l).1.2.1 = Θ.2.1 + 1 := by
  have a : (abT Θ c l).1.2.1 = (suT Θ c l).1.2.1 + 1 := by unfold abT; exact nq_wk
  rw [nq_su] at a; exact a
theorem nq_ev : (evT Θ x aw l).1.2.1 = Θ.2.1 + 2 := by
  have a1 : (evT Θ x aw l).1.2.1 = (ev3 Θ x l).1.2.1 := by unfold evT; exact nq_pr
  have a2 : (ev3 Θ x l).1.2.1 = (ev2 Θ x l).1.2.1 := by unfold ev3; exact nq_wr
  have a3 : (ev2 Θ x l).1.2.1 = (ev1 Θ x).1.2.1 + 1 := by unfold ev2; exact nq_ab
  have a4 : (ev1 Θ x).1.2.1 = (haT Θ).1.2.1 := by unfold ev1; exact nq_pr
  have a5 := nq_ha (Θ := Θ)
  omega
end
section
variable {b : Nat → Int32} {n m : Nat} {τ : Td} {j i o f1 f2 fo x aw lit y : Nat} {k : Int32} {w : Int64} {K : List KE} {σ σ1 σ2 : PS}
/-- counters the same, at most q pauses more -/
def Cq (q : Nat) (σ σ' : PS) : Prop := σ'.1.1 = σ.1.1 ∧ (trS σ').2.1 ≤ (trS σ).2.1 + q
theorem Sx.cq {q : Nat} {r : TrT} (h : Sx σ σ1) (g : r.2.1 = (trS σ1).2.1 + q) : Cq q σ (trP1 σ1 r) := ⟨h.1, by rw [h.2] at g; exact Nat.le_of_eq g⟩
theorem Cq.mo {q q1 : Nat} (h : Cq q σ σ1) (g : q ≤ q1) : Cq q1 σ σ1 := ⟨h.1, by have := h.2; omega⟩
theorem Cq.al {q R : Nat} (h : Cq q σ σ1) (g : (trS σ).2.1 + (R + q) ≤ σ.1.1 1) : (trS σ1).2.1 + R ≤ σ1.1.1 1 := by
  rw [h.1]
  have := h.2
  omega
theorem br_q {j a x : Nat} {g u : Int32} : (brP σ j a x g u).1 = σ.1 ∧ (trS (brP σ j a x g u)).2.1 = (trS σ).2.1 := by
  unfold brP
  split
  · exact ⟨rfl, hgT_n.2⟩
  · exact ⟨rfl, hgT_n.2⟩
theorem pb_bg {k : Int32} {pl q d : Nat} {wh : Int32} : (bgP m k pl q d wh σ).1.1 1 = σ.1.1 1 + paK k ∧ trS (bgP m k pl q d wh σ) = trS σ := ⟨by simp [bgP, va_up], rfl⟩
theorem pb_rw {p : Nat} {q0 : Option Nat} : (rwP p q0 σ).1.1 1 = σ.1.1 1 ∧ trS (rwP p q0 σ) = trS σ := ⟨by simp [rwP, va_up], rfl⟩
theorem Sx.c0 {r : TrT} (h : Sx σ σ1) (g : r.2.1 = (trS σ1).2.1) : Cq 0 σ (trP1 σ1 r) := ⟨h.1, by rw [h.2] at g; exact Nat.le_of_eq g⟩
theorem lf_q {r : Nat × PS × Nat} (e : lfM b n m τ k w j i K σ = .ok r) : Cq (paK k) σ r.2.1 := by
  unfold lfM at e
  by_cases k1 : k = 38
  · rw [if_pos k1] at e; cases e; exact (Sx.rf.cq nq_pa).mo (by rw [k1]; decide)
  rw [if_neg k1] at e
  by_cases k2 : k = 39
  · rw [if_pos k2] at e; cases e; exact (Sx.rf.cq nq_ha).mo (by rw [k2]; decide)
  rw [if_neg k2] at e
  by_cases k3 : k = 40
  · rw [if_pos k3] at e
    obtain ⟨y, e1, e⟩ := bind_ok e
    cases e; exact ((em_x e1).c0 nq_em).mo (by omega)
  rw [if_neg k3] at e
  by_cases k4 : k = 41
  · rw [if_pos k4] at e
    obtain ⟨y, e1, e⟩ := bind_ok e
    cases e; exact ((em_x e1).cq nq_st).mo (by rw [k4]; decide)
  rw [if_neg k4] at e
  by_cases k5 : k = 47
  · rw [if_pos k5] at e
    obtain ⟨y, e1, e⟩ := bind_ok e
    cases e; exact ((at_x e1).cq nq_aw).mo (by rw [k5]; decide)
  rw [if_neg k5] at e
  by_cases k6 : k = 57
  · rw [if_pos k6] at e
    by_cases h1 : tK b n i = 2
    · rw [if_pos h1] at e
      cases h2 : trW K (tC b n i) with
      | none => rw [h2] at e; cases e
      | some q =>
        rw [h2] at e
        obtain ⟨i2, -, e⟩ := bind_ok e
        cases e; exact (Sx.c0 (σ1 := raP σ (up2 σ.1.2.1 60 (40 * m + j) (Int32.ofNat q.2))) ⟨rfl, rfl⟩ nq_ex).mo (by omega)
    · rw [if_neg h1] at e; cases e
  rw [if_neg k6] at e
  by_cases k7 : k = 2
  · rw [if_pos k7] at e
    obtain ⟨i2, -, e⟩ := bind_ok e
    obtain ⟨y, e1, e⟩ := bind_ok e
    have q := su_x e1
    cases e; exact (Sx.c0 (σ := σ) ⟨q.1, q.2⟩ nq_mk).mo (by omega)
  rw [if_neg k7] at e
  cases e; exact (Sx.rf.c0 nq_mk).mo (by omega)
theorem hd_q {r : Nat × PS × Nat × Bool × Nat × Option Int64} (e : hdM b n m τ k j i K σ = .ok r) : Cq (hpK k) σ r.2.1 := by
  unfold hdM at e
  by_cases k1 : k = 44
  · rw [if_pos k1] at e
    obtain ⟨y, e1, e⟩ := bind_ok e
    obtain ⟨i2, -, e⟩ := bind_ok e
    have q := co_x e1
    cases e; exact ⟨q.1, by rw [q.2]; omega⟩
  rw [if_neg k1] at e
  by_cases k2 : k = 49
  · rw [if_pos k2] at e; cases e; exact ⟨rfl, Nat.le_add_right _ _⟩
  rw [if_neg k2] at e
  by_cases k3 : k = 50
  · rw [if_pos k3] at e
    obtain ⟨i2, -, e⟩ := bind_ok e
    cases e; exact ⟨rfl, Nat.le_add_right _ _⟩
  rw [if_neg k3] at e
  by_cases k4 : k = 53
  · rw [if_pos k4] at e
    obtain ⟨y, e1, e⟩ := bind_ok e
    obtain ⟨i2, -, e⟩ := bind_ok e
    cases e; exact ((at_x e1).cq nq_aw).mo (by rw [k4]; decide)
  rw [if_neg k4] at e
  by_cases k5 : k = 55
  · rw [if_pos k5] at e
    by_cases h1 : tK b n i = 2
    · rw [if_pos h1] at e
      by_cases h2 : toT (tC b n i) τ = true ∨ (trW K (tC b n i)).isSome = true
      · rw [if_pos h2] at e; cases e
      rw [if_neg h2] at e
      obtain ⟨i2, -, e⟩ := bind_ok e
      obtain ⟨i3, -, e⟩ := bind_ok e
      cases e; exact ⟨rfl, Nat.le_add_right _ _⟩
    · rw [if_neg h1] at e; cases e
  rw [if_neg k5] at e
  by_cases k6 : k = 58
  · rw [if_pos k6] at e
    obtain ⟨y, e1, e⟩ := bind_ok e
    have q := su_x e1
    by_cases h1 : 7 ≤ tK b n y.1 ∧ tK b n y.1 ≤ 12
    · rw [if_pos h1] at e
      obtain ⟨i2, -, e⟩ := bind_ok e
      obtain ⟨z, e2, e⟩ := bind_ok e
      obtain ⟨i3, -, e⟩ := bind_ok e
      have q2 := su_x e2
      have g1 : z.2.1.1 = σ.1.1 := q2.1.trans q.1
      have g2 : trS z.2 = trS σ := q2.2.trans q.2
      cases e; exact ⟨g1, Nat.le_trans (Nat.le_of_eq (congrArg (fun t : TrT => t.2.1) g2)) (Nat.le_add_right _ _)⟩
    · rw [if_neg h1] at e; cases e
  rw [if_neg k6] at e
  by_cases k7 : k = 17
  · rw [if_pos k7] at e
    cases e; exact (Sx.rf.c0 nq_mk).mo (by rw [k7]; decide)
  rw [if_neg k7] at e
  cases e; exact ⟨rfl, Nat.le_add_right _ _⟩
theorem tl_q {r : Nat × PS × Nat} {q : Nat} (e : tlM b n m τ k j aw lit x i o σ = .ok r) (hq : paK k ≤ q + hpK k) : Cq q σ r.2.1 := by
  unfold tlM at e
  by_cases k1 : k = 42
  · rw [if_pos k1] at e
    obtain ⟨i2, -, e⟩ := bind_ok e
    cases e
    by_cases h1 : (trS σ).2.2 13 x &&& 1 = 0
    · rw [if_pos h1]; exact (Sx.rf.c0 nq_wr).mo (by omega)
    · rw [if_neg h1]; exact (Sx.c0 (σ := σ) (σ1 := paP σ j 2 7) ⟨rfl, rfl⟩ nq_wr).mo (by omega)
  rw [if_neg k1] at e
  by_cases k2 : k = 49
  · rw [if_pos k2] at e
    have hq : 1 ≤ q := by rw [k2] at hq; exact hq
    obtain ⟨i2, -, e⟩ := bind_ok e
    obtain ⟨y, e1, e⟩ := bind_ok e
    obtain ⟨i3, -, e⟩ := bind_ok e
    have g := at_x e1
    by_cases h1 : y.2.2.2 = true
    · rw [if_pos h1] at e
      have b1 := nq_ab (Θ := trS y.2.1) (c := x) (l := Int32.ofNat y.2.2.1)
      have b2 := nq_mk (Θ := (abT (trS y.2.1) x (Int32.ofNat y.2.2.1)).1) (k := 0)
      have b3 := nq_ch (Θ := (mkT (abT (trS y.2.1) x (Int32.ofNat y.2.2.1)).1 0).1) (l := Int32.ofNat y.2.2.1) (c := (mkT (abT (trS y.2.1) x (Int32.ofNat y.2.2.1)).1 0).2) (d := (abT (trS y.2.1) x (Int32.ofNat y.2.2.1)).2)
      cases e
      exact (g.cq (q := 1) (by omega)).mo hq
    · rw [if_neg h1] at e
      cases e
      exact (g.cq nq_ab).mo (by omega)
  rw [if_neg k2] at e
  by_cases k3 : k = 50
  · rw [if_pos k3] at e
    have hq : 1 ≤ q := by rw [k3] at hq; exact hq
    obtain ⟨i2, -, e⟩ := bind_ok e
    obtain ⟨y, e1, e⟩ := bind_ok e
    obtain ⟨i3, -, e⟩ := bind_ok e
    cases e
    exact ((at_x e1).cq nq_wk).mo (by omega)
  rw [if_neg k3] at e
  by_cases k4 : k = 52
  · rw [if_pos k4] at e
    obtain ⟨i2, -, e⟩ := bind_ok e
    obtain ⟨y, e1, e⟩ := bind_ok e
    obtain ⟨i3, -, e⟩ := bind_ok e
    cases e
    exact ((co_x e1).c0 nq_su).mo (by omega)
  rw [if_neg k4] at e
  by_cases k5 : k = 53
  · rw [if_pos k5] at e
    have hq : 3 ≤ q + 1 := by rw [k5] at hq; exact hq
    obtain ⟨i2, -, e⟩ := bind_ok e
    cases e
    exact (Sx.rf.cq nq_ev).mo (by omega)
  rw [if_neg k5] at e
  obtain ⟨i2, -, e⟩ := bind_ok e
  cases e
  exact (Sx.rf.c0 nq_wr).mo (by omega)
theorem ch_q {r : Nat × PS × Nat} (e : chM b n lit x y i σ = .ok r) : Cq 0 σ r.2.1 := by
  unfold chM at e
  obtain ⟨i2, -, e⟩ := bind_ok e
  cases e
  exact Sx.rf.c0 nq_ch
theorem hp_pa (k : Int32) : hpK k ≤ paK k := by
  unfold hpK paK
  by_cases k1 : k = 53
  · rw [if_pos k1, if_pos k1]; decide
  · rw [if_neg k1]; exact Nat.zero_le _
/-- no more pauses in the tree than counted -/
theorem rp_pau : ∀ (g md : Nat) (K : List KE) (i : Nat) (σ : PS) (a1 a2 a3 a4 : Nat) (c1 c2 : Int32) (r : Nat × PS × Nat), md ≤ 3 → rp b n m τ g md K i σ a1 a2 a3 a4 c1 c2 = .ok r → ∀ R, (trS σ).2.1 + R ≤ σ.1.1 1 → (trS r.2.1).2.1 + R ≤ r.2.1.1.1 1 := by
  intro g
  induction g with
  | zero => intro md K i σ a1 a2 a3 a4 c1 c2 r _ e; unfold rp at e; cases e
  | succ g ih =>
    intro md K i σ a1 a2 a3 a4 c1 c2 r hm e R hR
    by_cases m2 : md = 2
    · subst m2
      rw [rp_bd] at e
      obtain ⟨u0, -, e⟩ := bind_ok e
      obtain ⟨i1, -, e⟩ := bind_ok e
      obtain ⟨u, eb, e⟩ := bind_ok e
      cases e
      show (trS u.2.1).2.1 + R ≤ u.2.1.1.1 1
      generalize tK b n i = k at eb
      generalize tC b n i = w at eb
      generalize npS σ = j at eb
      have q1 := pb_bg (m := m) (σ := σ) (k := k) (pl := tP b n i) (q := sqK K) (d := K.length) (wh := whK k w τ)
      generalize bgP m k (tP b n i) (sqK K) K.length (whK k w τ) σ = s0 at eb q1
      have hR0 : (trS s0).2.1 + (R + paK k) ≤ s0.1.1 1 := by rw [q1.1, q1.2]; omega
      unfold bdM at eb
      by_cases ko : opnK k = false
      · rw [if_pos ko] at eb
        exact (lf_q eb).al hR0
      rw [if_neg ko] at eb
      obtain ⟨h, eh, eb⟩ := bind_ok eb
      have hp := hp_pa k
      obtain ⟨Q, hQ⟩ : ∃ Q, Q + hpK k = paK k := ⟨paK k - hpK k, by omega⟩
      have hR1 : (trS h.2.1).2.1 + (R + Q) ≤ h.2.1.1.1 1 := (hd_q eh).al (by omega)
      have q2 := pb_rw (σ := h.2.1) (p := 40 * m + j) (q0 := none)
      have hR2 : (trS (rwP (40 * m + j) none h.2.1)).2.1 + (R + Q) ≤ (rwP (40 * m + j) none h.2.1).1.1 1 := by rw [q2.1, q2.2]; exact hR1
      by_cases k17 : k = 17
      · rw [if_pos k17] at eb
        obtain ⟨q, e1, eb⟩ := bind_ok eb
        cases eb
        have := ih 3 _ _ _ _ _ _ _ _ _ q (by decide) e1 (R + Q) hR2
        show (trS q.2.1).2.1 + R ≤ q.2.1.1.1 1
        omega
      rw [if_neg k17] at eb
      obtain ⟨q, e1, eb⟩ := bind_ok eb
      have hq := ih 0 _ _ _ _ _ _ _ _ _ q (by decide) e1 (R + Q) hR2
      by_cases k4 : k = 44 ∨ k = 58
      · rw [if_pos k4] at eb
        by_cases k46 : tK b n q.1 = 46
        · rw [if_pos k46] at eb
          obtain ⟨i2, -, eb⟩ := bind_ok eb
          obtain ⟨t, e2, eb⟩ := bind_ok eb
          have q3 := pb_rw (σ := q.2.1) (p := 40 * m + j) (q0 := some (h.2.1.1.1 4))
          have ht := ih 0 _ _ _ _ _ _ _ _ _ t (by decide) e2 (R + Q) (by rw [q3.1, q3.2]; exact hq)
          exact (ch_q eb).al (by omega)
        · rw [if_neg k46] at eb
          have c1 : Cq 0 q.2.1 (trP1 q.2.1 (mkT (trS q.2.1) 0).1) := Sx.rf.c0 nq_mk
          exact (ch_q eb).al (c1.al (by omega))
      rw [if_neg k4] at eb
      exact (tl_q eb (by omega)).al hq
    by_cases m0 : md = 0
    · subst m0
      unfold rp at e
      rw [if_pos rfl] at e
      obtain ⟨q, e1, e⟩ := bind_ok e
      have c1 : Cq 0 σ (trP1 σ (mkT (trS σ) 5).1) := Sx.rf.c0 nq_mk
      have hq := ih 2 _ _ _ _ _ _ _ _ _ q (by decide) e1 R (c1.al (by omega))
      exact ih 1 _ _ _ _ _ _ _ _ _ r (by decide) e R (by show (hgT _ _ _).2.1 + _ ≤ q.2.1.1.1 1; rw [hgT_n.2]; exact hq)
    by_cases m1 : md = 1
    · subst m1
      unfold rp at e
      rw [if_neg (by decide), if_pos rfl] at e
      by_cases h13 : tK b n i = 13
      · rw [if_pos h13] at e
        obtain ⟨j, -, e⟩ := bind_ok e
        obtain ⟨q, e1, e⟩ := bind_ok e
        have hq := ih 2 _ _ _ _ _ _ _ _ _ q (by decide) e1 R hR
        exact ih 1 _ _ _ _ _ _ _ _ _ r (by decide) e R (by show (hgT _ _ _).2.1 + _ ≤ q.2.1.1.1 1; rw [hgT_n.2]; exact hq)
      · rw [if_neg h13] at e; cases e; exact hR
    · have m3 : md = 3 := by omega
      subst m3
      unfold rp at e
      rw [if_neg m0, if_neg m1, if_neg m2] at e
      obtain ⟨q, e1, e⟩ := bind_ok e
      have hq := ih 0 _ _ _ _ _ _ _ _ _ q (by decide) e1 R hR
      have bn := br_q (σ := q.2.1) (j := a2) (a := a1) (x := q.2.2) (g := c1) (u := c2)
      by_cases h6 : tK b n q.1 = 6
      · rw [if_pos h6] at e
        by_cases h8 : a4 = 8
        · rw [if_pos h8] at e; cases e
        rw [if_neg h8] at e
        obtain ⟨j, -, e⟩ := bind_ok e
        have q3 := pb_rw (σ := brP q.2.1 a2 a1 q.2.2 c1 c2) (p := 40 * m + a2) (q0 := some a3)
        exact ih 3 _ _ _ _ _ _ _ _ _ r (by decide) e R (by rw [q3.1, q3.2, bn.2, bn.1]; exact hq)
      · rw [if_neg h6] at e
        obtain ⟨j, -, e⟩ := bind_ok e
        cases e
        show (trS (brP q.2.1 a2 a1 q.2.2 c1 c2)).2.1 + R ≤ (brP q.2.1 a2 a1 q.2.2 c1 c2).1.1 1
        rw [bn.2, bn.1]; exact hq
end
