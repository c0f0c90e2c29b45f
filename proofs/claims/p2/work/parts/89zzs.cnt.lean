/-! how many nodes the parts make at most -/
section
variable {Θ : TrT} {c d v x aw : Nat} {k l : Int32} {im : Bool}
theorem nb_mk : (mkT Θ k).1.1 ≤ Θ.1 + 1 := by unfold mkT; split <;> simp
theorem nb_wr : (wrT Θ k c).1.1 ≤ Θ.1 + 1 := by show (hgT _ _ _).1 ≤ _; rw [hgT_n.1]; exact nb_mk
theorem nb_pr : (prT Θ k c d).1.1 ≤ Θ.1 + 1 := by show (hgT _ _ _).1 ≤ _; rw [hgT_n.1, hgT_n.1]; exact nb_mk
theorem nb_pa : (paT Θ).1.1 ≤ Θ.1 + 1 := nb_mk
theorem nb_em : (emT Θ v).1.1 ≤ Θ.1 + 1 := nb_mk
theorem nb_ex : (exT Θ v).1.1 ≤ Θ.1 + 1 := nb_mk
theorem nb_ch : (chT Θ l c d).1.1 ≤ Θ.1 + 1 := nb_pr
theorem nb_su : (suT Θ c l).1.1 ≤ Θ.1 + 1 := nb_wr
theorem nb_ha : (haT Θ).1.1 ≤ Θ.1 + 2 := Nat.le_trans nb_wr (Nat.succ_le_succ nb_pa)
theorem nb_st : (stT Θ v).1.1 ≤ Θ.1 + 4 := Nat.le_trans nb_wr (Nat.succ_le_succ (Nat.le_trans nb_pr (Nat.succ_le_succ (Nat.le_trans nb_pa (Nat.succ_le_succ nb_em)))))
theorem nb_w1 : (wt1 Θ).1.1 ≤ Θ.1 + 3 := Nat.le_trans nb_mk (Nat.succ_le_succ (Nat.le_trans nb_ex (Nat.succ_le_succ nb_pa)))
theorem nb_w2 : (wt2 Θ l).1.1 ≤ Θ.1 + 4 := Nat.le_trans nb_ch (Nat.succ_le_succ nb_w1)
theorem nb_w3 : (wt3 Θ l im).1.1 ≤ Θ.1 + 5 := by
  cases im with
  | true => exact Nat.le_trans nb_pr (Nat.succ_le_succ nb_w2)
  | false => exact Nat.le_trans nb_pr (Nat.succ_le_succ nb_w2)
theorem nb_wa : (waT Θ l im).1.1 ≤ Θ.1 + 6 := Nat.le_trans nb_wr (Nat.succ_le_succ nb_w3)
theorem nb_aw : (awT Θ l im).1.1 ≤ Θ.1 + 7 := Nat.le_trans nb_wr (Nat.succ_le_succ nb_wa)
theorem nb_k1 : (wk1 Θ c).1.1 ≤ Θ.1 + 2 := Nat.le_trans nb_pr (Nat.succ_le_succ nb_ex)
theorem nb_k2 : (wk2 Θ c l im).1.1 ≤ Θ.1 + 8 := by
  have a : (wk2 Θ c l im).1.1 ≤ (wk1 Θ c).1.1 + 6 := nb_wa
  have e := nb_k1 (Θ := Θ) (c := c)
  omega
theorem nb_wk : (wkT Θ c l im).1.1 ≤ Θ.1 + 10 := Nat.le_trans nb_wr (Nat.succ_le_succ (Nat.le_trans nb_pr (Nat.succ_le_succ nb_k2)))
theorem nb_ab : (abT Θ c l).1.1 ≤ Θ.1 + 11 := by
  have a : (abT Θ c l).1.1 ≤ (suT Θ c l).1.1 + 10 := nb_wk
  have e := nb_su (Θ := Θ) (c := c) (l := l)
  omega
theorem nb_ev : (evT Θ x aw l).1.1 ≤ Θ.1 + 16 := by
  have a1 : (evT Θ x aw l).1.1 ≤ (ev3 Θ x l).1.1 + 1 := nb_pr
  have a2 : (ev3 Θ x l).1.1 ≤ (ev2 Θ x l).1.1 + 1 := nb_wr
  have a3 : (ev2 Θ x l).1.1 ≤ (ev1 Θ x).1.1 + 11 := nb_ab
  have a4 : (ev1 Θ x).1.1 ≤ (haT Θ).1.1 + 1 := nb_pr
  have a5 := nb_ha (Θ := Θ)
  omega
end
/-- counters and tree as they were -/
def Sx (σ σ' : PS) : Prop := σ'.1.1 = σ.1.1 ∧ trS σ' = trS σ
def hdK (k : Int32) : Nat := if k = 53 then 7 else if k = 17 then 1 else 0
section
variable {b : Nat → Int32} {n m : Nat} {τ : Td} {j i o f1 f2 fo x aw lit y : Nat} {k : Int32} {w : Int64} {K : List KE} {σ σ1 σ2 : PS}
theorem Sx.rf : Sx σ σ := ⟨rfl, rfl⟩
theorem Sx.tr (h : Sx σ σ1) (g : Sx σ1 σ2) : Sx σ σ2 := ⟨g.1.trans h.1, g.2.trans h.2⟩
theorem su_x {r : Nat × PS} (e : suM b n m τ j f1 f2 fo i o σ = .ok r) : Sx σ r.2 := by
  unfold suM at e
  obtain ⟨x, -, e⟩ := bind_ok e
  cases e
  exact ⟨rfl, rfl⟩
theorem co_x {r : Nat × PS × Nat} (e : coM b n m τ j i o σ = .ok r) : Sx σ r.2.1 := by
  unfold coM at e
  obtain ⟨x, -, e⟩ := bind_ok e
  cases e
  exact ⟨rfl, rfl⟩
theorem at_x {r : Nat × PS × Nat × Bool} (e : atM b n m τ j i o σ = .ok r) : Sx σ r.2.1 := by
  unfold atM at e
  obtain ⟨x, -, e⟩ := bind_ok e
  obtain ⟨y, e1, e⟩ := bind_ok e
  cases e
  have q := co_x e1
  by_cases h : x.2 = true
  · rw [if_pos h] at q; exact q
  · rw [if_neg h] at q; exact q
theorem em_x {r : Nat × PS × Nat} (e : emM b n m τ k j i o σ = .ok r) : Sx σ r.2.1 := by
  unfold emM at e
  by_cases h1 : tK b n i = 2
  · rw [if_pos h1] at e
    cases h2 : fd τ.1 (tC b n i) with
    | none => rw [h2] at e; cases e
    | some s =>
      rw [h2] at e
      have e : (if τ.2.1.getD s 0 = 30 then Except.error (4, tP b n i) else (adv' b n i).bind fun i2 => _) = .ok r := e
      by_cases h3 : τ.2.1.getD s 0 = 30
      · rw [if_pos h3] at e; cases e
      rw [if_neg h3] at e
      obtain ⟨i2, -, e⟩ := bind_ok e
      by_cases h4 : τ.2.2.1.getD s 0 = 0
      · rw [if_pos h4] at e
        by_cases h5 : k = 40 ∧ tK b n i2 = 15
        · rw [if_pos h5] at e; cases e
        · rw [if_neg h5] at e; cases e; exact ⟨rfl, rfl⟩
      rw [if_neg h4] at e
      by_cases h5 : k = 40 ∧ tK b n i2 = 15
      · rw [if_pos h5] at e
        by_cases h6 : o = 15
        · rw [if_pos h6] at e; cases e
        rw [if_neg h6] at e
        obtain ⟨i3, -, e⟩ := bind_ok e
        obtain ⟨y, e1, e⟩ := bind_ok e
        obtain ⟨i4, -, e⟩ := bind_ok e
        cases e
        have q := su_x e1
        exact ⟨q.1, q.2⟩
      · rw [if_neg h5] at e; cases e
  · rw [if_neg h1] at e; cases e
/-- what lies in a part's tree: counters the same, at most q nodes more -/
def Cx (q : Nat) (σ σ' : PS) : Prop := σ'.1.1 = σ.1.1 ∧ (trS σ').1 ≤ (trS σ).1 + q
theorem Sx.cx {q : Nat} {r : TrT} (h : Sx σ σ1) (g : r.1 ≤ (trS σ1).1 + q) : Cx q σ (trP1 σ1 r) := ⟨h.1, by rw [h.2] at g; exact g⟩
theorem Cx.mo {q q1 : Nat} (h : Cx q σ σ1) (g : q ≤ q1) : Cx q1 σ σ1 := ⟨h.1, by have := h.2; omega⟩
theorem lf_c {r : Nat × PS × Nat} (e : lfM b n m τ k w j i K σ = .ok r) : Cx (2 + 11 * paK k) σ r.2.1 := by
  unfold lfM at e
  by_cases k1 : k = 38
  · rw [if_pos k1] at e; cases e; exact (Sx.rf.cx nb_pa).mo (by omega)
  rw [if_neg k1] at e
  by_cases k2 : k = 39
  · rw [if_pos k2] at e; cases e; exact (Sx.rf.cx nb_ha).mo (by omega)
  rw [if_neg k2] at e
  by_cases k3 : k = 40
  · rw [if_pos k3] at e
    obtain ⟨y, e1, e⟩ := bind_ok e
    cases e; exact ((em_x e1).cx nb_em).mo (by omega)
  rw [if_neg k3] at e
  by_cases k4 : k = 41
  · rw [if_pos k4] at e
    obtain ⟨y, e1, e⟩ := bind_ok e
    cases e; exact ((em_x e1).cx nb_st).mo (by rw [k4]; decide)
  rw [if_neg k4] at e
  by_cases k5 : k = 47
  · rw [if_pos k5] at e
    obtain ⟨y, e1, e⟩ := bind_ok e
    cases e; exact ((at_x e1).cx nb_aw).mo (by rw [k5]; decide)
  rw [if_neg k5] at e
  by_cases k6 : k = 57
  · rw [if_pos k6] at e
    by_cases h1 : tK b n i = 2
    · rw [if_pos h1] at e
      cases h2 : trW K (tC b n i) with
      | none => rw [h2] at e; cases e
      | some q =>
        rw [h2] at e
        obtain ⟨i2, -, e⟩ := bind_ok e
        cases e; exact (Sx.cx (σ1 := raP σ (up2 σ.1.2.1 60 (40 * m + j) (Int32.ofNat q.2))) ⟨rfl, rfl⟩ nb_ex).mo (by omega)
    · rw [if_neg h1] at e; cases e
  rw [if_neg k6] at e
  by_cases k7 : k = 2
  · rw [if_pos k7] at e
    obtain ⟨i2, -, e⟩ := bind_ok e
    obtain ⟨y, e1, e⟩ := bind_ok e
    have q := su_x e1
    cases e; exact (Sx.cx (σ := σ) ⟨q.1, q.2⟩ nb_mk).mo (by omega)
  rw [if_neg k7] at e
  cases e; exact (Sx.rf.cx nb_mk).mo (by omega)
theorem hd_c {r : Nat × PS × Nat × Bool × Nat × Option Int64} (e : hdM b n m τ k j i K σ = .ok r) : Cx (hdK k) σ r.2.1 := by
  unfold hdM at e
  by_cases k1 : k = 44
  · rw [if_pos k1] at e
    obtain ⟨y, e1, e⟩ := bind_ok e
    obtain ⟨i2, -, e⟩ := bind_ok e
    have q := co_x e1
    cases e; exact ⟨q.1, by rw [q.2]; omega⟩
  rw [if_neg k1] at e
  by_cases k2 : k = 49
  · rw [if_pos k2] at e; cases e; exact ⟨rfl, Nat.le_add_right _ _⟩
  rw [if_neg k2] at e
  by_cases k3 : k = 50
  · rw [if_pos k3] at e
    obtain ⟨i2, -, e⟩ := bind_ok e
    cases e; exact ⟨rfl, Nat.le_add_right _ _⟩
  rw [if_neg k3] at e
  by_cases k4 : k = 53
  · rw [if_pos k4] at e
    obtain ⟨y, e1, e⟩ := bind_ok e
    obtain ⟨i2, -, e⟩ := bind_ok e
    cases e; exact ((at_x e1).cx nb_aw).mo (by rw [k4]; decide)
  rw [if_neg k4] at e
  by_cases k5 : k = 55
  · rw [if_pos k5] at e
    by_cases h1 : tK b n i = 2
    · rw [if_pos h1] at e
      by_cases h2 : toT (tC b n i) τ = true ∨ (trW K (tC b n i)).isSome = true
      · rw [if_pos h2] at e; cases e
      rw [if_neg h2] at e
      obtain ⟨i2, -, e⟩ := bind_ok e
      obtain ⟨i3, -, e⟩ := bind_ok e
      cases e; exact ⟨rfl, Nat.le_add_right _ _⟩
    · rw [if_neg h1] at e; cases e
  rw [if_neg k5] at e
  by_cases k6 : k = 58
  · rw [if_pos k6] at e
    obtain ⟨y, e1, e⟩ := bind_ok e
    have q := su_x e1
    by_cases h1 : 7 ≤ tK b n y.1 ∧ tK b n y.1 ≤ 12
    · rw [if_pos h1] at e
      obtain ⟨i2, -, e⟩ := bind_ok e
      obtain ⟨z, e2, e⟩ := bind_ok e
      obtain ⟨i3, -, e⟩ := bind_ok e
      have q2 := su_x e2
      have g1 : z.2.1.1 = σ.1.1 := q2.1.trans q.1
      have g2 : trS z.2 = trS σ := q2.2.trans q.2
      cases e; exact ⟨g1, Nat.le_trans (Nat.le_of_eq (congrArg (fun t : TrT => t.1) g2)) (Nat.le_add_right _ _)⟩
    · rw [if_neg h1] at e; cases e
  rw [if_neg k6] at e
  by_cases k7 : k = 17
  · rw [if_pos k7] at e
    cases e; exact (Sx.rf.cx nb_mk).mo (by rw [k7]; decide)
  rw [if_neg k7] at e
  cases e; exact ⟨rfl, Nat.le_add_right _ _⟩
theorem tl_c {r : Nat × PS × Nat} {q : Nat} (e : tlM b n m τ k j aw lit x i o σ = .ok r) (hq : 2 + 11 * paK k ≤ q + hdK k) : Cx q σ r.2.1 := by
  unfold tlM at e
  by_cases k1 : k = 42
  · rw [if_pos k1] at e
    obtain ⟨i2, -, e⟩ := bind_ok e
    have hq : 2 ≤ q := by rw [k1] at hq; exact hq
    cases e
    by_cases h1 : (trS σ).2.2 13 x &&& 1 = 0
    · rw [if_pos h1]; exact (Sx.rf.cx nb_wr).mo (by omega)
    · rw [if_neg h1]; exact (Sx.cx (σ := σ) (σ1 := paP σ j 2 7) ⟨rfl, rfl⟩ nb_wr).mo (by omega)
  rw [if_neg k1] at e
  by_cases k2 : k = 49
  · rw [if_pos k2] at e
    have hq : 13 ≤ q := by rw [k2] at hq; exact hq
    obtain ⟨i2, -, e⟩ := bind_ok e
    obtain ⟨y, e1, e⟩ := bind_ok e
    obtain ⟨i3, -, e⟩ := bind_ok e
    have g := at_x e1
    by_cases h1 : y.2.2.2 = true
    · rw [if_pos h1] at e
      have b1 := nb_ab (Θ := trS y.2.1) (c := x) (l := Int32.ofNat y.2.2.1)
      have b2 := nb_mk (Θ := (abT (trS y.2.1) x (Int32.ofNat y.2.2.1)).1) (k := 0)
      have b3 := nb_ch (Θ := (mkT (abT (trS y.2.1) x (Int32.ofNat y.2.2.1)).1 0).1) (l := Int32.ofNat y.2.2.1) (c := (mkT (abT (trS y.2.1) x (Int32.ofNat y.2.2.1)).1 0).2) (d := (abT (trS y.2.1) x (Int32.ofNat y.2.2.1)).2)
      cases e
      exact (g.cx (q := 13) (by omega)).mo hq
    · rw [if_neg h1] at e
      cases e
      exact (g.cx nb_ab).mo (by omega)
  rw [if_neg k2] at e
  by_cases k3 : k = 50
  · rw [if_pos k3] at e
    have hq : 13 ≤ q := by rw [k3] at hq; exact hq
    obtain ⟨i2, -, e⟩ := bind_ok e
    obtain ⟨y, e1, e⟩ := bind_ok e
    obtain ⟨i3, -, e⟩ := bind_ok e
    cases e
    exact ((at_x e1).cx nb_wk).mo (by omega)
  rw [if_neg k3] at e
  by_cases k4 : k = 52
  · rw [if_pos k4] at e
    have hq : 2 ≤ q := by rw [k4] at hq; exact hq
    obtain ⟨i2, -, e⟩ := bind_ok e
    obtain ⟨y, e1, e⟩ := bind_ok e
    obtain ⟨i3, -, e⟩ := bind_ok e
    cases e
    exact ((co_x e1).cx nb_su).mo (by omega)
  rw [if_neg k4] at e
  by_cases k5 : k = 53
  · rw [if_pos k5] at e
    have hq : 2 + 11 * 3 ≤ q + 7 := by rw [k5] at hq; exact hq
    obtain ⟨i2, -, e⟩ := bind_ok e
    cases e
    exact (Sx.rf.cx nb_ev).mo (by omega)
  rw [if_neg k5] at e
  obtain ⟨i2, -, e⟩ := bind_ok e
  cases e
  refine (Sx.rf.cx nb_wr).mo ?_
  unfold hdK at hq
  rw [if_neg k5] at hq
  by_cases k6 : k = 17
  · rw [if_pos k6] at hq; omega
  · rw [if_neg k6] at hq; omega
theorem ch_c {r : Nat × PS × Nat} (e : chM b n lit x y i σ = .ok r) : Cx 1 σ r.2.1 := by
  unfold chM at e
  obtain ⟨i2, -, e⟩ := bind_ok e
  cases e
  exact Sx.rf.cx nb_ch
end
