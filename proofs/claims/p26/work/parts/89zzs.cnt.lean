section
/-! how many nodes the parts make at most -/
section
variable {Θ : TrT} {c d v x aw : Nat} {k l : Int32} {im : Bool}
theorem nb_mk : (mkT Θ k).1.1 ≤ Θ.1 + 1 := by unfold mkT; split <;> simp
theorem nb_wr : (wrT Θ k c).1.1 ≤ Θ.1 + 1 := by show (hgT _ _ _).1 ≤ _; rw [hgT_n.1]; exact nb_mk
theorem nb_pr : (prT Θ k c d).1.1 ≤ Θ.1 + 1 := by show (hgT _ _ _).1 ≤ _; rw [hgT_n.1, hgT_n.1]; exact nb_mk
theorem nb_pa : (paT Θ).1.1 ≤ Θ.1 + 1 := nb_mk
theorem nb_em : (emT Θ v).1.1 ≤ Θ.1 + 1 := nb_mk
theorem nb_ex : (exT Θ v).1.1 ≤ Θ.1 + 1 := nb_mk
theorem nb_ch : (chT Θ l c d).1.1 ≤ Θ.1 + 1 := nb_pr
theorem nb_su : (suT Θ c l).1.1 ≤ Θ.1 + 1 := nb_wr
theorem nb_ha : (haT Θ).1.1 ≤ Θ.1 + 2 := Nat.le_trans nb_wr (Nat.succ_le_succ nb_pa)
theorem nb_st : (stT Θ v).1.1 ≤ Θ.1 + 4 := Nat.le_trans nb_wr (Nat.succ_le_succ (Nat.le_trans nb_pr (Nat.succ_le_succ (Nat.le_trans nb_pa (Nat.succ_le_succ nb_em)))))
theorem nb_w1 : (wt1 Θ).1.1 ≤ Θ.1 + 3 := Nat.le_trans nb_mk (Nat.succ_le_succ (Nat.le_trans nb_ex (Nat.succ_le_succ nb_pa)))
theorem nb_w2 : (wt2 Θ l).1.1 ≤ Θ.1 + 4 := Nat.le_trans nb_ch (Nat.succ_le_succ nb_w1)
theorem nb_w3 : (wt3 Θ l im).1.1 ≤ Θ.1 + 5 := by
  cases im with
  | true => exact Nat.le_trans nb_pr (Nat.succ_le_succ nb_w2)
  | false => exact Nat.le_trans nb_pr (Nat.succ_le_succ nb_w2)
theorem nb_wa : (waT Θ l im).1.1 ≤ Θ.1 + 6 := Nat.le_trans nb_wr (Nat.succ_le_succ nb_w3)
theorem nb_aw : (awT Θ l im).1.1 ≤ Θ.1 + 7 := Nat.le_trans nb_wr (Nat.succ_le_succ nb_wa)
theorem nb_k1 : (wk1 Θ c).1.1 ≤ Θ.1 + 2 := Nat.le_trans nb_pr (Nat.succ_le_succ nb_ex)
theorem nb_k2 : (wk2 Θ c l im).1.1 ≤ Θ.1 + 8 := by
  have a : (wk2 Θ c l im).1.1 ≤ (wk1 Θ c).1.1 + 6 := nb_wa
  have e := nb_k1 (Θ := Θ) (c := c)
  omega
theorem nb_wk : (wkT Θ c l im).1.1 ≤ Θ.1 + 10 := Nat.le_trans nb_wr (Nat.succ_le_succ (Nat.le_trans nb_pr (Nat.succ_le_succ nb_k2)))
theorem nb_ab : (abT Θ c l).1.1 ≤ Θ.1 + 11 := by
  have a : (abT Θ c l).1.1 ≤ (suT Θ c l).1.1 + 10 := nb_wk
  have e := nb_su (Θ := Θ) (c := c) (l := l)
  omega
theorem nb_ev : (evT Θ x aw l).1.1 ≤ Θ.1 + 16 := by
  have a1 : (evT Θ x aw l).1.1 ≤ (ev3 Θ x l).1.1 + 1 := nb_pr
  have a2 : (ev3 Θ x l).1.1 ≤ (ev2 Θ x l).1.1 + 1 := nb_wr
  have a3 : (ev2 Θ x l).1.1 ≤ (ev1 Θ x).1.1 + 11 := nb_ab
  have a4 : (ev1 Θ x).1.1 ≤ (haT Θ).1.1 + 1 := nb_pr
  have a5 := nb_ha (Θ := Θ)
  omega
end
/-- counters and tree as they were -/
def Sx (σ σ' : PS) : Prop := σ'.1.1 = σ.1.1 ∧ trS σ' = trS σ
def hdK (k : Int32) : Nat := if k = 53 then 7 else if k = 17 then 1 else 0
section
variable {b : Nat → Int32} {n m : Nat} {τ : Td} {j i o f1 f2 fo x aw lit y : Nat} {k : Int32} {w : Int64} {K : List KE} {σ σ1 σ2 : PS}
theorem Sx.rf : Sx σ σ := ⟨rfl, rfl⟩
theorem Sx.tr (h : Sx σ σ1) (g : Sx σ1 σ2) : Sx σ σ2 := ⟨g.1.trans h.1, g.2.trans h.2⟩
theorem su_x {r : Nat × PS} (e : suM b n m τ j f1 f2 fo i o σ = .ok r) : Sx σ r.2 := by
  unfold suM at e
  obtain ⟨x, -, e⟩ := bind_ok e
  cases e
  exact ⟨rfl, rfl⟩
theorem co_x {r : Nat × PS × Nat} (e : coM b n m τ j i o σ = .ok r) : Sx σ r.2.1 := by
  unfold coM at e
  obtain ⟨x, -, e⟩ := bind_ok e
  cases e
  exact ⟨rfl, rfl⟩
theorem at_x {r : Nat × PS × Nat × Bool} (e : atM b n m τ j i o σ = .ok r) : Sx σ r.2.1 := by
  unfold atM at e
  obtain ⟨x, -, e⟩ := bind_ok e
  obtain ⟨y, e1, e⟩ := bind_ok e
  cases e
  have q := co_x e1
  by_cases h : x.2 = true
  · rw [if_pos h] at q; exact q
  · rw [if_neg h] at q; exact q
theorem em_x {r : Nat × PS × Nat} (e : emM b n m τ k j i o σ = .ok r) : Sx σ r.2.1 := by
  unfold emM at e
  by_cases h1 : tK b n i = 2
  · rw [if_pos h1] at e
    cases h2 : fd τ.1 (tC b n i) with
    | none => rw [h2] at e; cases e
    | some s =>
      rw [h2] at e
      have e : (if τ.2.1.getD s 0 = 30 then Except.error (4, tP b n i) else (adv' b n i).bind fun i2 => _) = .ok r := e
      by_cases h3 : τ.2.1.getD s 0 = 30
      · rw [if_pos h3] at e; cases e
      rw [if_neg h3] at e
      obtain ⟨i2, -, e⟩ := bind_ok e
      by_cases h4 : τ.2.2.1.getD s 0 = 0
      · rw [if_pos h4] at e
        by_cases h5 : k = 40 ∧ tK b n i2 = 15
        · rw [if_pos h5] at e; cases e
        · rw [if_neg h5] at e; cases e; exact ⟨rfl, rfl⟩
      rw [if_neg h4] at e
      by_cases h5 : k = 40 ∧ tK b n i2 = 15
      · rw [if_pos h5] at e
        by_cases h6 : o = 15
        · rw [if_pos h6] at e; cases e
        rw [if_neg h6] at e
        obtain ⟨i3, -, e⟩ := bind_ok e
        obtain ⟨y, e1, e⟩ := bind_ok e
        obtain ⟨i4, -, e⟩ := bind_ok e
        cases e
        have q := su_x e1
        exact ⟨q.1, q.2⟩
      · rw [if_neg h5] at e; cases e
  · rw [if_neg h1] at e; cases e
/-- what lies in a part's tree: counters the same, at most q nodes more -/
def Cx (q : Nat) (σ σ' : PS) : Prop := σ'.1.1 = σ.1.1 ∧ (trS σ').1 ≤ (trS σ).1 + q
theorem Sx.cx {q : Nat} {r : TrT} (h : Sx σ σ1) (g : r.1 ≤ (trS σ1).1 + q) : Cx q σ (trP1 σ1 r) := ⟨h.1, by rw [h.2] at g; exact g⟩
theorem Cx.mo {q q1 : Nat} (h : Cx q σ σ1) (g : q ≤ q1) : Cx q1 σ σ1 := ⟨h.1, by have := h.2; omega⟩
theorem lf_c {r : Nat × PS × Nat} (e : lfM b n m τ k w j i K σ = .ok r) : Cx (2 + 11 * paK k) σ r.2.1 := by
  unfold lfM at e
  by_cases k1 : k = 38
  · rw [if_pos k1] at e; cases e; exact (Sx.rf.cx nb_pa).mo (by omega)
  rw [if_neg k1] at e
  by_cases k2 : k = 39
  · rw [if_pos k2] at e; cases e; exact (Sx.rf.cx nb_ha).mo (by omega)
  rw [if_neg k2] at e
  by_cases k3 : k = 40
  · rw [if_pos k3] at e
    obtain ⟨y, e1, e⟩ := bind_ok e
    cases e; exact ((em_x e1).cx nb_em).mo (by omega)
  rw [if_neg k3] at e
  by_cases k4 : k = 41
  · rw [if_pos k4] at e
    obtain ⟨y, e1, e⟩ := bind_ok e
    cases e; exact ((em_x e1).cx nb_st).mo (by rw [k4]; decide)
  rw [if_neg k4] at e
  by_cases k5 : k = 47
  · rw [if_pos k5] at e
    obtain ⟨y, e1, e⟩ := bind_ok e
    cases e; exact ((at_x e1).cx nb_aw).mo (by rw [k5]; decide)
  rw [if_neg k5] at e
  by_cases k6 : k = 57
  · rw [if_pos k6] at e
    by_cases h1 : tK b n i = 2
    · rw [if_pos h1] at e
      cases h2 : trW K (tC b n i) with
      | none => rw [h2] at e; cases e
      | some q =>
        rw [h2] at e
        obtain ⟨i2, -, e⟩ := bind_ok e
        cases e; exact (Sx.cx (σ1 := raP σ (up2 σ.1.2.1 60 (40 * m + j) (Int32.ofNat q.2))) ⟨rfl, rfl⟩ nb_ex).mo (by omega)
    · rw [if_neg h1] at e; cases e
  rw [if_neg k6] at e
  by_cases k7 : k = 2
  · rw [if_pos k7] at e
    obtain ⟨i2, -, e⟩ := bind_ok e
    obtain ⟨y, e1, e⟩ := bind_ok e
    have q := su_x e1
    cases e; exact (Sx.cx (σ := σ) ⟨q.1, q.2⟩ nb_mk).mo (by omega)
  rw [if_neg k7] at e
  cases e; exact (Sx.rf.cx nb_mk).mo (by omega)
theorem hd_c {r : Nat × PS × Nat × Bool × Nat × Option Int64} (e : hdM b n m τ k j i K σ = .ok r) : Cx (hdK k) σ r.2.1 := by
  unfold hdM at e
  by_cases k1 : k = 44
  · rw [if_pos k1] at e
    obtain ⟨y, e1, e⟩ := bind_ok e
    obtain ⟨i2, -, e⟩ := bind_ok e
    have q := co_x e1
    cases e; exact ⟨q.1, by rw [q.2]; omega⟩
  rw [if_neg k1] at e
  by_cases k2 : k = 49
  · rw [if_pos k2] at e; cases e; exact ⟨rfl, Nat.le_add_right _ _⟩
  rw [if_neg k2] at e
  by_cases k3 : k = 50
  · rw [if_pos k3] at e
    obtain ⟨i2, -, e⟩ := bind_ok e
    cases e; exact ⟨rfl, Nat.le_add_right _ _⟩
  rw [if_neg k3] at e
  by_cases k4 : k = 53
  · rw [if_pos k4] at e
    obtain ⟨y, e1, e⟩ := bind_ok e
    obtain ⟨i2, -, e⟩ := bind_ok e
    cases e; exact ((at_x e1).cx nb_aw).mo (by rw [k4]; decide)
  rw [if_neg k4] at e
  by_cases k5 : k = 55
  · rw [if_pos k5] at e
    by_cases h1 : tK b n i = 2
    · rw [if_pos h1] at e
      by_cases h2 : toT (tC b n i) τ = true ∨ (trW K (tC b n i)).isSome = true
      · rw [if_pos h2] at e; cases e
      rw [if_neg h2] at e
      obtain ⟨i2, -, e⟩ := bind_ok e
      obtain ⟨i3, -, e⟩ := bind_ok e
      cases e; exact ⟨rfl, Nat.le_add_right _ _⟩
    · rw [if_neg h1] at e; cases e
  rw [if_neg k5] at e
  by_cases k6 : k = 58
  · rw [if_pos k6] at e
    obtain ⟨y, e1, e⟩ := bind_ok e
    have q := su_x e1
    by_cases h1 : 7 ≤ tK b n y.1 ∧ tK b n y.1 ≤ 12
    · rw [if_pos h1] at e
      obtain ⟨i2, -, e⟩ := bind_ok e
      obtain ⟨z, e2, e⟩ := bind_ok e
      obtain ⟨i3, -, e⟩ := bind_ok e
      have q2 := su_x e2
      have g1 : z.2.1.1 = σ.1.1 := q2.1.trans q.1
      have g2 : trS z.2 = trS σ := q2.2.trans q.2
      cases e; exact ⟨g1, Nat.le_trans (Nat.le_of_eq (congrArg (fun t : TrT => t.1) g2)) (Nat.le_add_right _ _)⟩
    · rw [if_neg h1] at e; cases e
  rw [if_neg k6] at e
  by_cases k7 : k = 17
  · rw [if_pos k7] at e
    cases e; exact (Sx.rf.cx nb_mk).mo (by rw [k7]; decide)
  rw [if_neg k7] at e
  cases e; exact ⟨rfl, Nat.le_add_right _ _⟩
theorem tl_c {r : Nat × PS × Nat} {q : Nat} (e : tlM b n m τ k j aw lit x i o σ = .ok r) (hq : 2 + 11 * paK k ≤ q + hdK k) : Cx q σ r.2.1 := by
  unfold tlM at e
  by_cases k1 : k = 42
  · rw [if_pos k1] at e
    obtain ⟨i2, -, e⟩ := bind_ok e
    have hq : 2 ≤ q := by rw [k1] at hq; exact hq
    cases e
    by_cases h1 : (trS σ).2.2 13 x &&& 1 = 0
    · rw [if_pos h1]; exact (Sx.rf.cx nb_wr).mo (by omega)
    · rw [if_neg h1]; exact (Sx.cx (σ := σ) (σ1 := paP σ j 2 7) ⟨rfl, rfl⟩ nb_wr).mo (by omega)
  rw [if_neg k1] at e
  by_cases k2 : k = 49
  · rw [if_pos k2] at e
    have hq : 13 ≤ q := by rw [k2] at hq; exact hq
    obtain ⟨i2, -, e⟩ := bind_ok e
    obtain ⟨y, e1, e⟩ := bind_ok e
    obtain ⟨i3, -, e⟩ := bind_ok e
    have g := at_x e1
    by_cases h1 : y.2.2.2 = true
    · rw [if_pos h1] at e
      have b1 := nb_ab (Θ := trS y.2.1) (c := x) (l := Int32.ofNat y.2.2.1)
      have b2 := nb_mk (Θ := (abT (trS y.2.1) x (Int32.ofNat y.2.2.1)).1) (k := 0)
      have b3 := nb_ch (Θ := (mkT (abT (trS y.2.1) x (Int32.ofNat y.2.2.1)).1 0).1) (l := Int32.ofNat y.2.2.1) (c := (mkT (abT (trS y.2.1) x (Int32.ofNat y.2.2.1)).1 0).2) (d := (abT (trS y.2.1) x (Int32.ofNat y.2.2.1)).2)
      cases e
      exact (g.cx (q := 13) (by omega)).mo hq
    · rw [if_neg h1] at e
      cases e
      exact (g.cx nb_ab).mo (by omega)
  rw [if_neg k2] at e
  by_cases k3 : k = 50
  · rw [if_pos k3] at e
    have hq : 13 ≤ q := by rw [k3] at hq; exact hq
    obtain ⟨i2, -, e⟩ := bind_ok e
    obtain ⟨y, e1, e⟩ := bind_ok e
    obtain ⟨i3, -, e⟩ := bind_ok e
    cases e
    exact ((at_x e1).cx nb_wk).mo (by omega)
  rw [if_neg k3] at e
  by_cases k4 : k = 52
  · rw [if_pos k4] at e
    have hq : 2 ≤ q := by rw [k4] at hq; exact hq
    obtain ⟨i2, -, e⟩ := bind_ok e
    obtain ⟨y, e1, e⟩ := bind_ok e
    obtain ⟨i3, -, e⟩ := bind_ok e
    cases e
    exact ((co_x e1).cx nb_su).mo (by omega)
  rw [if_neg k4] at e
  by_cases k5 : k = 53
  · rw [if_pos k5] at e
    have hq : 2 + 11 * 3 ≤ q + 7 := by rw [k5] at hq; exact hq
    obtain ⟨i2, -, e⟩ := bind_ok e
    cases e
    exact (Sx.rf.cx nb_ev).mo (by omega)
  rw [if_neg k5] at e
  obtain ⟨i2, -, e⟩ := bind_ok e
  cases e
  refine (Sx.rf.cx nb_wr).mo ?_
  unfold hdK at hq
  rw [if_neg k5] at hq
  by_cases k6 : k = 17
  · rw [if_pos k6] at hq; omega
  · rw [if_neg k6] at hq; omega
theorem ch_c {r : Nat × PS × Nat} (e : chM b n lit x y i σ = .ok r) : Cx 1 σ r.2.1 := by
  unfold chM at e
  obtain ⟨i2, -, e⟩ := bind_ok e
  cases e
  exact Sx.rf.cx nb_ch
end
end
section
/-! how many nodes a row, a part, branches make: never more than the tree has room for -/
/-- what parts, pauses and rows allow -/
def alR (σ : PS) : Nat := 2 * npS σ + 11 * σ.1.1 1 + σ.1.1 4 + 4
section
variable {b : Nat → Int32} {n m : Nat} {τ : Td} {σ σ1 : PS}
theorem alR.cx {q R : Nat} (h : Cx q σ σ1) (g : (trS σ).1 + (R + q) ≤ alR σ) : (trS σ1).1 + R ≤ alR σ1 := by
  have e : alR σ1 = alR σ := by unfold alR npS; rw [h.1]
  have := h.2
  omega
theorem al_bg {k : Int32} {pl q d : Nat} {wh : Int32} : alR (bgP m k pl q d wh σ) = alR σ + (2 + 11 * paK k) ∧ trS (bgP m k pl q d wh σ) = trS σ := by
  refine ⟨?_, rfl⟩
  have e1 : (bgP m k pl q d wh σ).1.1 1 = σ.1.1 1 + paK k := by simp [bgP, va_up]
  unfold alR
  rw [bg_n.1, e1, bg_n.2.1]
  omega
theorem al_rw {p : Nat} {q0 : Option Nat} : alR (rwP p q0 σ) = alR σ + 1 ∧ trS (rwP p q0 σ) = trS σ := by
  have e1 : (rwP p q0 σ).1.1 1 = σ.1.1 1 := by simp [rwP, va_up]
  refine ⟨?_, rfl⟩
  unfold alR
  rw [rw_n.1, e1, rw_n.2.1]
  omega
theorem hd_pa (k : Int32) : hdK k ≤ 2 + 11 * paK k := by
  unfold hdK
  by_cases k1 : k = 53
  · rw [k1]; decide
  rw [if_neg k1]
  by_cases k2 : k = 17
  · rw [k2]; decide
  rw [if_neg k2]
  omega
theorem rp_cnt : ∀ (g md : Nat) (K : List KE) (i : Nat) (σ : PS) (a1 a2 a3 a4 : Nat) (c1 c2 : Int32) (r : Nat × PS × Nat), md ≤ 3 → rp b n m τ g md K i σ a1 a2 a3 a4 c1 c2 = .ok r → ∀ R, (trS σ).1 + (R + if md = 0 ∨ md = 3 then 1 else 0) ≤ alR σ → (trS r.2.1).1 + R ≤ alR r.2.1 := by
  intro g
  induction g with
  | zero => intro md K i σ a1 a2 a3 a4 c1 c2 r _ e; unfold rp at e; cases e
  | succ g ih =>
    intro md K i σ a1 a2 a3 a4 c1 c2 r hm e R hR
    by_cases m2 : md = 2
    · subst m2
      rw [if_neg (by decide)] at hR
      rw [rp_bd] at e
      obtain ⟨u0, -, e⟩ := bind_ok e
      obtain ⟨i1, -, e⟩ := bind_ok e
      obtain ⟨u, eb, e⟩ := bind_ok e
      cases e
      show (trS u.2.1).1 + R ≤ alR u.2.1
      generalize tK b n i = k at eb
      generalize tC b n i = w at eb
      generalize npS σ = j at eb
      have q1 := al_bg (m := m) (σ := σ) (k := k) (pl := tP b n i) (q := sqK K) (d := K.length) (wh := whK k w τ)
      generalize bgP m k (tP b n i) (sqK K) K.length (whK k w τ) σ = s0 at eb q1
      have hR0 : (trS s0).1 + (R + (2 + 11 * paK k)) ≤ alR s0 := by rw [q1.1, q1.2]; omega
      unfold bdM at eb
      by_cases ko : opnK k = false
      · rw [if_pos ko] at eb
        exact alR.cx (lf_c eb) hR0
      rw [if_neg ko] at eb
      obtain ⟨h, eh, eb⟩ := bind_ok eb
      have hp := hd_pa k
      obtain ⟨Q, hQ⟩ : ∃ Q, Q + hdK k = 2 + 11 * paK k := ⟨2 + 11 * paK k - hdK k, by omega⟩
      have hR1 : (trS h.2.1).1 + (R + Q) ≤ alR h.2.1 := alR.cx (hd_c eh) (by omega)
      have q2 := al_rw (σ := h.2.1) (p := 40 * m + j) (q0 := none)
      have hR2 : (trS (rwP (40 * m + j) none h.2.1)).1 + ((R + Q) + 1) ≤ alR (rwP (40 * m + j) none h.2.1) := by rw [q2.1, q2.2]; omega
      by_cases k17 : k = 17
      · rw [if_pos k17] at eb
        obtain ⟨q, e1, eb⟩ := bind_ok eb
        cases eb
        have := ih 3 _ _ _ _ _ _ _ _ _ q (by decide) e1 (R + Q) (by rw [if_pos (by decide)]; exact hR2)
        show (trS q.2.1).1 + R ≤ alR q.2.1
        omega
      rw [if_neg k17] at eb
      obtain ⟨q, e1, eb⟩ := bind_ok eb
      have hq := ih 0 _ _ _ _ _ _ _ _ _ q (by decide) e1 (R + Q) (by rw [if_pos (by decide)]; exact hR2)
      by_cases k4 : k = 44 ∨ k = 58
      · rw [if_pos k4] at eb
        have hQ2 : 2 ≤ Q := by
          rcases k4 with z | z
          · rw [z] at hQ; have : Q + 0 = 2 := hQ; omega
          · rw [z] at hQ; have : Q + 0 = 2 := hQ; omega
        by_cases k46 : tK b n q.1 = 46
        · rw [if_pos k46] at eb
          obtain ⟨i2, -, eb⟩ := bind_ok eb
          obtain ⟨t, e2, eb⟩ := bind_ok eb
          have q3 := al_rw (σ := q.2.1) (p := 40 * m + j) (q0 := some (h.2.1.1.1 4))
          have ht := ih 0 _ _ _ _ _ _ _ _ _ t (by decide) e2 (R + Q) (by rw [if_pos (by decide), q3.1, q3.2]; omega)
          exact alR.cx (ch_c eb) (by omega)
        · rw [if_neg k46] at eb
          have b1 := nb_mk (Θ := trS q.2.1) (k := 0)
          have c1 : Cx 1 q.2.1 (trP1 q.2.1 (mkT (trS q.2.1) 0).1) := Sx.rf.cx b1
          exact alR.cx (ch_c eb) (alR.cx c1 (by omega))
      rw [if_neg k4] at eb
      exact alR.cx (tl_c eb (by omega)) hq
    by_cases m0 : md = 0
    · subst m0
      rw [if_pos (by decide)] at hR
      unfold rp at e
      rw [if_pos rfl] at e
      obtain ⟨q, e1, e⟩ := bind_ok e
      have c1 : Cx 1 σ (trP1 σ (mkT (trS σ) 5).1) := Sx.rf.cx nb_mk
      have hq := ih 2 _ _ _ _ _ _ _ _ _ q (by decide) e1 R (by rw [if_neg (by decide)]; exact alR.cx c1 hR)
      exact ih 1 _ _ _ _ _ _ _ _ _ r (by decide) e R (by rw [if_neg (by decide)]; show (hgT _ _ _).1 + _ ≤ alR q.2.1; rw [hgT_n.1]; exact hq)
    by_cases m1 : md = 1
    · subst m1
      rw [if_neg (by decide)] at hR
      unfold rp at e
      rw [if_neg (by decide), if_pos rfl] at e
      by_cases h13 : tK b n i = 13
      · rw [if_pos h13] at e
        obtain ⟨j, -, e⟩ := bind_ok e
        obtain ⟨q, e1, e⟩ := bind_ok e
        have hq := ih 2 _ _ _ _ _ _ _ _ _ q (by decide) e1 R (by rw [if_neg (by decide)]; exact hR)
        exact ih 1 _ _ _ _ _ _ _ _ _ r (by decide) e R (by rw [if_neg (by decide)]; show (hgT _ _ _).1 + _ ≤ alR q.2.1; rw [hgT_n.1]; exact hq)
      · rw [if_neg h13] at e; cases e; exact hR
    · have m3 : md = 3 := by omega
      subst m3
      rw [if_pos (by decide)] at hR
      unfold rp at e
      rw [if_neg m0, if_neg m1, if_neg m2] at e
      obtain ⟨q, e1, e⟩ := bind_ok e
      have hq := ih 0 _ _ _ _ _ _ _ _ _ q (by decide) e1 R (by rw [if_pos (by decide)]; exact hR)
      have bn := br_n (σ := q.2.1) (j := a2) (a := a1) (x := q.2.2) (g := c1) (u := c2)
      have ba : alR (brP q.2.1 a2 a1 q.2.2 c1 c2) = alR q.2.1 := by unfold alR npS; rw [bn.1]
      by_cases h6 : tK b n q.1 = 6
      · rw [if_pos h6] at e
        by_cases h8 : a4 = 8
        · rw [if_pos h8] at e; cases e
        rw [if_neg h8] at e
        obtain ⟨j, -, e⟩ := bind_ok e
        have q3 := al_rw (σ := brP q.2.1 a2 a1 q.2.2 c1 c2) (p := 40 * m + a2) (q0 := some a3)
        exact ih 3 _ _ _ _ _ _ _ _ _ r (by decide) e R (by rw [if_pos (by decide), q3.1, q3.2, bn.2, ba]; omega)
      · rw [if_neg h6] at e
        obtain ⟨j, -, e⟩ := bind_ok e
        cases e
        show (trS (brP q.2.1 a2 a1 q.2.2 c1 c2)).1 + R ≤ alR (brP q.2.1 a2 a1 q.2.2 c1 c2)
        rw [bn.2, ba]; exact hq
end
end
section
/-! induction over a reading of parts, with all that is known of each of its pieces -/
/-- what is known of a piece: before, behind -/
def RQ (b : Nat → Int32) (n s m md : Nat) (K : List KE) (i : Nat) (σ : PS) (a1 a2 a3 : Nat) (r : Nat × PS × Nat) : Prop := (i ≤ s ∧ tK b n i ≠ 0 ∧ RpI m md K σ a2 a3) ∧ RpO m md σ a1 r.2 ∧ i ≤ r.1 ∧ r.1 ≤ s ∧ tK b n r.1 ≠ 0
section
variable {b : Nat → Int32} {n s m : Nat} {τ : Td}
theorem RQ.of {g md i a1 a2 a3 a4 : Nat} {K : List KE} {σ : PS} {c1 c2 : Int32} {r : Nat × PS × Nat} (hS : Sto b n s) (hm : md ≤ 3) (h : i ≤ s ∧ tK b n i ≠ 0 ∧ RpI m md K σ a2 a3) (e : rp b n m τ g md K i σ a1 a2 a3 a4 c1 c2 = .ok r) : RQ b n s m md K i σ a1 a2 a3 r := by
  have q := rp_ok (τ := τ) (m := m) hS g md K i σ a1 a2 a3 a4 c1 c2 hm h.1 h.2.1 h.2.2
  rw [e] at q
  exact ⟨h, q.2.2.2.1, q.1, q.2.1, q.2.2.1⟩
theorem rp_ind (hS : Sto b n s) (P0 P2 : List KE → Nat → PS → Nat × PS × Nat → Prop) (P1 : List KE → Nat → PS → Nat → Nat × PS × Nat → Prop) (P3 : List KE → Nat → PS → Nat → Nat → Nat → Nat → Int32 → Int32 → Nat × PS × Nat → Prop)
    (c0 : ∀ K i σ q r, RQ b n s m 0 K i σ 0 0 0 r → RQ b n s m 2 K i (trP1 σ (mkT (trS σ) 5).1) 0 0 0 q → P2 K i (trP1 σ (mkT (trS σ) 5).1) q → RQ b n s m 1 K q.1 (hgP q.2.1 (mkT (trS σ) 5).2 q.2.2) (mkT (trS σ) 5).2 0 0 r → P1 K q.1 (hgP q.2.1 (mkT (trS σ) 5).2 q.2.2) (mkT (trS σ) 5).2 r → P0 K i σ r)
    (c1m : ∀ K i σ a1 q r, tK b n i = 13 → RQ b n s m 1 K i σ a1 0 0 r → RQ b n s m 2 K (i + 1) σ 0 0 0 q → P2 K (i + 1) σ q → RQ b n s m 1 K q.1 (hgP q.2.1 a1 q.2.2) a1 0 0 r → P1 K q.1 (hgP q.2.1 a1 q.2.2) a1 r → P1 K i σ a1 r)
    (c1e : ∀ K i σ a1, tK b n i ≠ 13 → RQ b n s m 1 K i σ a1 0 0 (i, σ, a1) → P1 K i σ a1 (i, σ, a1))
    (c2l : ∀ K i σ u, okK (tK b n i) (tC b n i) K.length τ σ (tP b n i) = .ok () → opnK (tK b n i) = false → lfM b n m τ (tK b n i) (tC b n i) (npS σ) (i + 1) K (bgP m (tK b n i) (tP b n i) (sqK K) K.length (whK (tK b n i) (tC b n i) τ) σ) = .ok u → HdN m (npS σ) (bgP m (tK b n i) (tP b n i) (sqK K) K.length (whK (tK b n i) (tC b n i) τ) σ) u.2 → RQ b n s m 2 K i σ 0 0 0 (u.1, fiP m (npS σ) u.2.2 u.2.1, u.2.2) → P2 K i σ (u.1, fiP m (npS σ) u.2.2 u.2.1, u.2.2))
    (c2b : ∀ K i σ h q, okK (tK b n i) (tC b n i) K.length τ σ (tP b n i) = .ok () → tK b n i = 17 → hdM b n m τ (tK b n i) (npS σ) (i + 1) K (bgP m (tK b n i) (tP b n i) (sqK K) K.length (whK (tK b n i) (tC b n i) τ) σ) = .ok h → Hd m (npS σ) (bgP m (tK b n i) (tP b n i) (sqK K) K.length (whK (tK b n i) (tC b n i) τ) σ) h.2.1 → RQ b n s m 3 K h.1 (rwP (40 * m + npS σ) none h.2.1) h.2.2.2.2.1 (npS σ) (h.2.1.1.1 4) q → P3 K h.1 (rwP (40 * m + npS σ) none h.2.1) h.2.2.2.2.1 (npS σ) (h.2.1.1.1 4) 1 0 0 q → RQ b n s m 2 K i σ 0 0 0 (q.1, fiP m (npS σ) q.2.2 (guP q.2.1 (giS σ ||| giS q.2.1) (usS σ ||| usS q.2.1)), q.2.2) → P2 K i σ (q.1, fiP m (npS σ) q.2.2 (guP q.2.1 (giS σ ||| giS q.2.1) (usS σ ||| usS q.2.1)), q.2.2))
    (c2t : ∀ K i σ h q u, okK (tK b n i) (tC b n i) K.length τ σ (tP b n i) = .ok () → opnK (tK b n i) = true → tK b n i ≠ 17 → ¬ (tK b n i = 44 ∨ tK b n i = 58) → hdM b n m τ (tK b n i) (npS σ) (i + 1) K (bgP m (tK b n i) (tP b n i) (sqK K) K.length (whK (tK b n i) (tC b n i) τ) σ) = .ok h → Hd m (npS σ) (bgP m (tK b n i) (tP b n i) (sqK K) K.length (whK (tK b n i) (tC b n i) τ) σ) h.2.1 → RQ b n s m 0 ((40 * m + npS σ, h.2.1.1.1 4, 1, h.2.2.2.2.2) :: K) h.1 (rwP (40 * m + npS σ) none h.2.1) 0 0 0 q → P0 ((40 * m + npS σ, h.2.1.1.1 4, 1, h.2.2.2.2.2) :: K) h.1 (rwP (40 * m + npS σ) none h.2.1) q → tlM b n m τ (tK b n i) (npS σ) h.2.2.2.2.1 h.2.2.1 q.2.2 q.1 (K.length + 1) q.2.1 = .ok u → HdN m (npS σ) q.2.1 u.2 → RQ b n s m 2 K i σ 0 0 0 (u.1, fiP m (npS σ) u.2.2 u.2.1, u.2.2) → P2 K i σ (u.1, fiP m (npS σ) u.2.2 u.2.1, u.2.2))
    (c2e : ∀ K i σ h q t u, okK (tK b n i) (tC b n i) K.length τ σ (tP b n i) = .ok () → opnK (tK b n i) = true → tK b n i = 44 ∨ tK b n i = 58 → hdM b n m τ (tK b n i) (npS σ) (i + 1) K (bgP m (tK b n i) (tP b n i) (sqK K) K.length (whK (tK b n i) (tC b n i) τ) σ) = .ok h → Hd m (npS σ) (bgP m (tK b n i) (tP b n i) (sqK K) K.length (whK (tK b n i) (tC b n i) τ) σ) h.2.1 → RQ b n s m 0 ((40 * m + npS σ, h.2.1.1.1 4, 1, h.2.2.2.2.2) :: K) h.1 (rwP (40 * m + npS σ) none h.2.1) 0 0 0 q → P0 ((40 * m + npS σ, h.2.1.1.1 4, 1, h.2.2.2.2.2) :: K) h.1 (rwP (40 * m + npS σ) none h.2.1) q → tK b n q.1 = 46 → RQ b n s m 0 ((40 * m + npS σ, q.2.1.1.1 4, 2, none) :: K) (q.1 + 1) (rwP (40 * m + npS σ) (some (h.2.1.1.1 4)) q.2.1) 0 0 0 t → P0 ((40 * m + npS σ, q.2.1.1.1 4, 2, none) :: K) (q.1 + 1) (rwP (40 * m + npS σ) (some (h.2.1.1.1 4)) q.2.1) t → chM b n h.2.2.1 q.2.2 t.2.2 t.1 t.2.1 = .ok u → HdN m (npS σ) t.2.1 u.2 → RQ b n s m 2 K i σ 0 0 0 (u.1, fiP m (npS σ) u.2.2 u.2.1, u.2.2) → P2 K i σ (u.1, fiP m (npS σ) u.2.2 u.2.1, u.2.2))
    (c2n : ∀ K i σ h q u, okK (tK b n i) (tC b n i) K.length τ σ (tP b n i) = .ok () → opnK (tK b n i) = true → tK b n i = 44 ∨ tK b n i = 58 → hdM b n m τ (tK b n i) (npS σ) (i + 1) K (bgP m (tK b n i) (tP b n i) (sqK K) K.length (whK (tK b n i) (tC b n i) τ) σ) = .ok h → Hd m (npS σ) (bgP m (tK b n i) (tP b n i) (sqK K) K.length (whK (tK b n i) (tC b n i) τ) σ) h.2.1 → RQ b n s m 0 ((40 * m + npS σ, h.2.1.1.1 4, 1, h.2.2.2.2.2) :: K) h.1 (rwP (40 * m + npS σ) none h.2.1) 0 0 0 q → P0 ((40 * m + npS σ, h.2.1.1.1 4, 1, h.2.2.2.2.2) :: K) h.1 (rwP (40 * m + npS σ) none h.2.1) q → tK b n q.1 ≠ 46 → chM b n h.2.2.1 q.2.2 (mkT (trS q.2.1) 0).2 q.1 (trP1 q.2.1 (mkT (trS q.2.1) 0).1) = .ok u → HdN m (npS σ) (trP1 q.2.1 (mkT (trS q.2.1) 0).1) u.2 → RQ b n s m 2 K i σ 0 0 0 (u.1, fiP m (npS σ) u.2.2 u.2.1, u.2.2) → P2 K i σ (u.1, fiP m (npS σ) u.2.2 u.2.1, u.2.2))
    (c3m : ∀ K i σ a1 a2 a3 a4 c1 c2 q r, RQ b n s m 3 K i σ a1 a2 a3 r → RQ b n s m 0 ((40 * m + a2, a3, a4, none) :: K) i (guP σ 0 0) 0 0 0 q → P0 ((40 * m + a2, a3, a4, none) :: K) i (guP σ 0 0) q → tK b n q.1 = 6 → a4 ≠ 8 → RQ b n s m 3 K (q.1 + 1) (rwP (40 * m + a2) (some a3) (brP q.2.1 a2 a1 q.2.2 c1 c2)) a1 a2 (q.2.1.1.1 4) r → P3 K (q.1 + 1) (rwP (40 * m + a2) (some a3) (brP q.2.1 a2 a1 q.2.2 c1 c2)) a1 a2 (q.2.1.1.1 4) (a4 + 1) (c1 ||| giS q.2.1) (c2 ||| usS q.2.1) r → P3 K i σ a1 a2 a3 a4 c1 c2 r)
    (c3e : ∀ K i σ a1 a2 a3 a4 c1 c2 q, RQ b n s m 3 K i σ a1 a2 a3 (q.1 + 1, brP q.2.1 a2 a1 q.2.2 c1 c2, a1) → RQ b n s m 0 ((40 * m + a2, a3, a4, none) :: K) i (guP σ 0 0) 0 0 0 q → P0 ((40 * m + a2, a3, a4, none) :: K) i (guP σ 0 0) q → tK b n q.1 ≠ 6 → P3 K i σ a1 a2 a3 a4 c1 c2 (q.1 + 1, brP q.2.1 a2 a1 q.2.2 c1 c2, a1)) :
    ∀ g, (∀ K i σ r, i ≤ s ∧ tK b n i ≠ 0 ∧ RpI m 0 K σ 0 0 → rp b n m τ g 0 K i σ 0 0 0 0 0 0 = .ok r → P0 K i σ r) ∧ (∀ K i σ a1 r, i ≤ s ∧ tK b n i ≠ 0 ∧ RpI m 1 K σ 0 0 → rp b n m τ g 1 K i σ a1 0 0 0 0 0 = .ok r → P1 K i σ a1 r) ∧ (∀ K i σ r, i ≤ s ∧ tK b n i ≠ 0 ∧ RpI m 2 K σ 0 0 → rp b n m τ g 2 K i σ 0 0 0 0 0 0 = .ok r → P2 K i σ r) ∧ (∀ K i σ a1 a2 a3 a4 c1 c2 r, i ≤ s ∧ tK b n i ≠ 0 ∧ RpI m 3 K σ a2 a3 → rp b n m τ g 3 K i σ a1 a2 a3 a4 c1 c2 = .ok r → P3 K i σ a1 a2 a3 a4 c1 c2 r) := by
  intro g
  induction g with
  | zero => exact ⟨fun K i σ r _ e => (by unfold rp at e; cases e), fun K i σ a1 r _ e => (by unfold rp at e; cases e), fun K i σ r _ e => (by unfold rp at e; cases e), fun K i σ a1 a2 a3 a4 c1 c2 r _ e => (by unfold rp at e; cases e)⟩
  | succ g ih =>
    obtain ⟨i0, i1, i2, i3⟩ := ih
    refine ⟨fun K i σ r hp e => ?_, fun K i σ a1 r hp e => ?_, fun K i σ r hp e => ?_, fun K i σ a1 a2 a3 a4 c1 c2 r hp e => ?_⟩
    · have hR := RQ.of hS (by decide) hp e
      obtain ⟨hi, h0, hP, hK, hq, h3, h1, hc⟩ := hp
      unfold rp at e
      rw [if_pos rfl] at e
      obtain ⟨q, e1, e⟩ := bind_ok e
      have p2 : i ≤ s ∧ tK b n i ≠ 0 ∧ RpI m 2 K (trP1 σ (mkT (trS σ) 5).1) 0 0 := ⟨hi, h0, hP, hK, fun _ => hq (by decide), fun z => absurd z (by decide), fun z => absurd z (by decide), hc⟩
      have R2 := RQ.of hS (by decide) p2 e1
      obtain ⟨-, ⟨v1, v2, v3, v4⟩, j1, j2, j3⟩ := id R2
      have p1 : q.1 ≤ s ∧ tK b n q.1 ≠ 0 ∧ RpI m 1 K (hgP q.2.1 (mkT (trS σ) 5).2 q.2.2) 0 0 := ⟨j2, j3, v2, hK, fun _ => Nat.lt_of_lt_of_le (hq (by decide)) v1.2.1, fun z => absurd z (by decide), fun _ => v3, Nat.le_succ_of_le v3⟩
      exact c0 K i σ q r hR R2 (i2 _ _ _ _ p2 e1) (RQ.of hS (by decide) p1 e) (i1 _ _ _ _ _ p1 e)
    · have hR := RQ.of hS (by decide) hp e
      obtain ⟨hi, h0, hP, hK, hq, h3, h1, hc⟩ := hp
      unfold rp at e
      rw [if_neg (by decide), if_pos rfl] at e
      by_cases k : tK b n i = 13
      · rw [if_pos k] at e
        obtain ⟨j, ea, e⟩ := bind_ok e
        obtain ⟨rfl, ha⟩ := adv_is ea
        obtain ⟨q, e1, e⟩ := bind_ok e
        have hs := hS.lt hi h0 (by rw [k]; decide)
        have p2 : i + 1 ≤ s ∧ tK b n (i + 1) ≠ 0 ∧ RpI m 2 K σ 0 0 := ⟨hs, ha, hP, hK, fun _ => hq (by decide), fun z => absurd z (by decide), fun z => absurd z (by decide), hc⟩
        have R2 := RQ.of hS (by decide) p2 e1
        obtain ⟨-, ⟨v1, v2, v3, v4⟩, j1, j2, j3⟩ := id R2
        have p1 : q.1 ≤ s ∧ tK b n q.1 ≠ 0 ∧ RpI m 1 K (hgP q.2.1 a1 q.2.2) 0 0 := ⟨j2, j3, v2, hK, fun _ => Nat.lt_of_lt_of_le (hq (by decide)) v1.2.1, fun z => absurd z (by decide), fun _ => v3, Nat.le_succ_of_le v3⟩
        exact c1m K i σ a1 q r k hR R2 (i2 _ _ _ _ p2 e1) (RQ.of hS (by decide) p1 e) (i1 _ _ _ _ _ p1 e)
      · rw [if_neg k] at e
        cases e
        exact c1e K i σ a1 k hR
    · have hR := RQ.of hS (by decide) hp e
      have hI := hp.2.2
      obtain ⟨hi, h0, hP, hK, hq, h3, h1, hc⟩ := hp
      rw [rp_bd] at e
      obtain ⟨u0, eo, e⟩ := bind_ok e
      obtain ⟨j, ea, e⟩ := bind_ok e
      obtain ⟨rfl, ha⟩ := adv_is ea
      obtain ⟨u, eb, e⟩ := bind_ok e
      cases e
      have hs1 := hS.lt hi h0 (fun z => (okK_ok eo).2.1 (by rw [z]; exact soK_1))
      unfold bdM at eb
      by_cases ko : opnK (tK b n i) = false
      · rw [if_pos ko] at eb
        have q := lfM_ok (F := True) (m := m) (τ := τ) (k := tK b n i) (w := tC b n i) (j := npS σ) (K := K) (σ := bgP m (tK b n i) (tP b n i) (sqK K) K.length (whK (tK b n i) (tC b n i) τ) σ) hS (i := i + 1) hs1 ha
        rw [eb] at q
        exact c2l K i σ u eo ko eb q.2.2.2 hR
      rw [if_neg ko] at eb
      have hop : opnK (tK b n i) = true := by cases ht : opnK (tK b n i) with
        | false => exact absurd ht ko
        | true => rfl
      obtain ⟨h, eh, eb⟩ := bind_ok eb
      have hok := hdM_ok (F := True) (m := m) (τ := τ) (k := tK b n i) (j := npS σ) (K := K) (σ := bgP m (tK b n i) (tP b n i) (sqK K) K.length (whK (tK b n i) (tC b n i) τ) σ) hS (i := i + 1) hs1 ha
      rw [eh] at hok
      have hH := hok.2.2.2.1
      obtain ⟨⟨t0, t1, t2⟩, okw, ⟨m1, m2, m3⟩, ⟨hl, o3⟩, -, prw⟩ := hc_facts hS hi h0 hI eo ha hop eh
      by_cases k17 : tK b n i = 17
      · rw [if_pos k17] at eb
        obtain ⟨q, e3, eb⟩ := bind_ok eb
        cases eb
        have p3 : h.1 ≤ s ∧ tK b n h.1 ≠ 0 ∧ RpI m 3 K (rwP (40 * m + npS σ) none h.2.1) (npS σ) (h.2.1.1.1 4) := ⟨t1, t0, okw, hI.2.1, fun z => absurd z (by decide), fun _ => ⟨hl, by rw [m2, m3]; exact Nat.lt_succ_self _, by rw [m1]; exact Nat.lt_succ_self _⟩, fun z => absurd z (by decide), by rw [m2, m1]; omega⟩
        exact c2b K i σ h q eo k17 eh hH (RQ.of hS (by decide) p3 e3) (i3 _ _ _ _ _ _ _ _ _ _ p3 e3) hR
      rw [if_neg k17] at eb
      obtain ⟨q, e0, eb⟩ := bind_ok eb
      have p0 : h.1 ≤ s ∧ tK b n h.1 ≠ 0 ∧ RpI m 0 ((40 * m + npS σ, h.2.1.1.1 4, 1, h.2.2.2.2.2) :: K) (rwP (40 * m + npS σ) none h.2.1) 0 0 := ⟨t1, t0, okw, by show K.length + 1 ≤ 15; omega, fun _ => by show h.2.1.1.1 4 < _; rw [m2, m3]; exact Nat.lt_succ_self _, fun z => absurd z (by decide), fun z => absurd z (by decide), by rw [m2, m1]; omega⟩
      have R0 := RQ.of hS (by decide) p0 e0
      obtain ⟨-, ⟨v1, v2, v3, v4⟩, j1, j2, j3⟩ := id R0
      by_cases kc : tK b n i = 44 ∨ tK b n i = 58
      · rw [if_pos kc] at eb
        by_cases k46 : tK b n q.1 = 46
        · rw [if_pos k46] at eb
          obtain ⟨j5, ea2, eb⟩ := bind_ok eb
          obtain ⟨rfl, ha2⟩ := adv_is ea2
          obtain ⟨t, e4, eb⟩ := bind_ok eb
          have hs2 := hS.lt j2 j3 (by rw [k46]; decide)
          obtain ⟨x1, x2, x3⟩ := rw_n (σ := q.2.1) (p := 40 * m + npS σ) (q0 := some (h.2.1.1.1 4))
          have p4 : q.1 + 1 ≤ s ∧ tK b n (q.1 + 1) ≠ 0 ∧ RpI m 0 ((40 * m + npS σ, q.2.1.1.1 4, 2, none) :: K) (rwP (40 * m + npS σ) (some (h.2.1.1.1 4)) q.2.1) 0 0 := ⟨hs2, ha2, v2.rw, by show K.length + 1 ≤ 15; omega, fun _ => by show q.2.1.1.1 4 < _; rw [x2]; exact Nat.lt_succ_self _, fun z => absurd z (by decide), fun z => absurd z (by decide), by rw [x2, x1]; omega⟩
          have R4 := RQ.of hS (by decide) p4 e4
          have cq := chM_ok (F := True) (lit := h.2.2.1) (x := q.2.2) (y := t.2.2) (m := m) (j := npS σ) (σ := t.2.1) hS R4.2.2.2.1
          rw [eb] at cq
          exact c2e K i σ h q t u eo hop kc eh hH R0 (i0 _ _ _ _ p0 e0) k46 R4 (i0 _ _ _ _ p4 e4) eb cq.2.2.2 hR
        · rw [if_neg k46] at eb
          have cq := chM_ok (F := True) (lit := h.2.2.1) (x := q.2.2) (y := (mkT (trS q.2.1) 0).2) (m := m) (j := npS σ) (σ := trP1 q.2.1 (mkT (trS q.2.1) 0).1) hS j2
          rw [eb] at cq
          exact c2n K i σ h q u eo hop kc eh hH R0 (i0 _ _ _ _ p0 e0) k46 eb cq.2.2.2 hR
      rw [if_neg kc] at eb
      have tq := tlM_ok (F := True) (m := m) (τ := τ) (k := tK b n i) (j := npS σ) (aw := h.2.2.2.2.1) (lit := h.2.2.1) (x := q.2.2) (o := K.length + 1) (σ := q.2.1) hS j2
      rw [eb] at tq
      exact c2t K i σ h q u eo hop k17 kc eh hH R0 (i0 _ _ _ _ p0 e0) eb tq.2.2.2 hR
    · have hR := RQ.of hS (by decide) hp e
      obtain ⟨hi, h0, hP, hK, hq, h3, h1, hc⟩ := hp
      obtain ⟨g1, g2, g3⟩ := h3 rfl
      unfold rp at e
      rw [if_neg (by decide), if_neg (by decide), if_neg (by decide)] at e
      obtain ⟨q, e1, e⟩ := bind_ok e
      have p0 : i ≤ s ∧ tK b n i ≠ 0 ∧ RpI m 0 ((40 * m + a2, a3, a4, none) :: K) (guP σ 0 0) 0 0 := ⟨hi, h0, hP, by show K.length + 1 ≤ 15; omega, fun _ => g2, fun z => absurd z (by decide), fun z => absurd z (by decide), hc⟩
      have R0 := RQ.of hS (by decide) p0 e1
      obtain ⟨-, ⟨v1, v2, v3, v4⟩, j1, j2, j3⟩ := id R0
      by_cases k6 : tK b n q.1 = 6
      · rw [if_pos k6] at e
        by_cases k8 : a4 = 8
        · rw [if_pos k8] at e; cases e
        rw [if_neg k8] at e
        obtain ⟨j, ea, e⟩ := bind_ok e
        obtain ⟨rfl, ha⟩ := adv_is ea
        have hs := hS.lt j2 j3 (by rw [k6]; decide)
        obtain ⟨x1, x2, x3⟩ := rw_n (σ := brP q.2.1 a2 a1 q.2.2 c1 c2) (p := 40 * m + a2) (q0 := some a3)
        have bn := br_n (σ := q.2.1) (j := a2) (a := a1) (x := q.2.2) (g := c1) (u := c2)
        have x2' : (rwP (40 * m + a2) (some a3) (brP q.2.1 a2 a1 q.2.2 c1 c2)).1.1 4 = q.2.1.1.1 4 + 1 := by rw [x2, bn.1]
        have x1' : npS (rwP (40 * m + a2) (some a3) (brP q.2.1 a2 a1 q.2.2 c1 c2)) = npS q.2.1 := by rw [x1]; unfold npS; rw [bn.1]
        have hn : npS σ ≤ npS q.2.1 := v1.1
        have p3 : q.1 + 1 ≤ s ∧ tK b n (q.1 + 1) ≠ 0 ∧ RpI m 3 K (rwP (40 * m + a2) (some a3) (brP q.2.1 a2 a1 q.2.2 c1 c2)) a2 (q.2.1.1.1 4) := ⟨hs, ha, (PsOk.br v2).rw, hK, fun z => absurd z (by decide), fun _ => ⟨g1, by rw [x2']; exact Nat.lt_succ_self _, by rw [x1']; omega⟩, fun z => absurd z (by decide), by rw [x2', x1']; omega⟩
        exact c3m K i σ a1 a2 a3 a4 c1 c2 q r hR R0 (i0 _ _ _ _ p0 e1) k6 k8 (RQ.of hS (by decide) p3 e) (i3 _ _ _ _ _ _ _ _ _ _ p3 e)
      · rw [if_neg k6] at e
        obtain ⟨j, ea, e⟩ := bind_ok e
        have hj : j = q.1 + 1 := by
          unfold ex at ea
          by_cases k18 : tK b n q.1 = 18
          · rw [if_pos k18] at ea; exact (adv_is ea).1
          · rw [if_neg k18] at ea; cases ea
        subst hj
        cases e
        exact c3e K i σ a1 a2 a3 a4 c1 c2 q hR R0 (i0 _ _ _ _ p0 e1) k6
end
end
section
/-! the rows of parts as they lie linked: what a reading leaves alone -/
def b9K (p so pl : Nat) (wh : Int32) (A : Nat → Nat → Int32) : Nat → Nat → Int32 := up2 (up2 (up2 (up2 (up2 (up2 (up2 (up2 (up2 A 58 p (Int32.ofNat so)) 59 p (Int32.ofNat pl)) 60 p wh) 61 p 0) 63 p (-1)) 65 p (-1)) 67 p (-1)) 69 p (-1)) 70 p (-1)
/-- rows but q, and which part follows which, as they were: below r, below B -/
def FrK (A A' : Nat → Nat → Int32) (B r q : Nat) : Prop := (∀ c y, 73 ≤ c → c ≤ 75 → y < r → y ≠ q → A' c y = A c y) ∧ ∀ p, p < B → (A 73 q ≠ -1 → A 74 q ≠ Int32.ofNat p) → A' 70 p = A 70 p
/-- a part p was put behind row q's last -/
def LkK (A A' : Nat → Nat → Int32) (p q : Nat) : Prop := A' 75 q = A 75 q ∧ A' 74 q = Int32.ofNat p ∧ A' 70 p = -1 ∧ (A 73 q = -1 → A' 73 q = Int32.ofNat p) ∧ (A 73 q ≠ -1 → A' 73 q = A 73 q ∧ ∀ x, x < p → A 74 q = Int32.ofNat x → A' 70 x = Int32.ofNat p)
section
variable {A A' A1 A2 : Nat → Nat → Int32} {p so pl q B r : Nat} {wh : Int32}
theorem b9_ne {c x : Nat} (h : ¬ (c ≤ 70 ∧ x = p)) : b9K p so pl wh A c x = A c x := by
  unfold b9K
  rw [up2_ne (fun z => h ⟨by omega, z.2⟩), up2_ne (fun z => h ⟨by omega, z.2⟩), up2_ne (fun z => h ⟨by omega, z.2⟩), up2_ne (fun z => h ⟨by omega, z.2⟩), up2_ne (fun z => h ⟨by omega, z.2⟩), up2_ne (fun z => h ⟨by omega, z.2⟩), up2_ne (fun z => h ⟨by omega, z.2⟩), up2_ne (fun z => h ⟨by omega, z.2⟩), up2_ne (fun z => h ⟨by omega, z.2⟩)]
theorem b9_70 : b9K p so pl wh A 70 p = -1 := up2_eq
theorem bg_lk (hp : p < 100000) (hx : A 73 q = -1 ∨ ∃ x, x < p ∧ A 74 q = Int32.ofNat x) : FrK A (bgA p so pl q wh A) p r q ∧ LkK A (bgA p so pl q wh A) p q := by
  have e : bgA p so pl q wh A = up2 (lkA p q (b9K p so pl wh A)) 74 q (Int32.ofNat p) := rfl
  have n73 : b9K p so pl wh A 73 q = A 73 q := b9_ne (fun z => by omega)
  have n74 : b9K p so pl wh A 74 q = A 74 q := b9_ne (fun z => by omega)
  have n75 : b9K p so pl wh A 75 q = A 75 q := b9_ne (fun z => by omega)
  rw [e]
  by_cases h : A 73 q = -1
  · have l : lkA p q (b9K p so pl wh A) = up2 (b9K p so pl wh A) 73 q (Int32.ofNat p) := if_pos (by rw [n73]; exact h)
    rw [l]
    refine ⟨⟨fun c y h1 h2 h3 h4 => ?_, fun x h1 h2 => ?_⟩, ?_, up2_eq, ?_, fun _ => ?_, fun z => absurd h z⟩
    · rw [up2_ne (fun z => h4 z.2), up2_ne (fun z => h4 z.2)]; exact b9_ne (fun z => by omega)
    · rw [up2_ne (fun z => absurd z.1 (by decide)), up2_ne (fun z => absurd z.1 (by decide))]; exact b9_ne (fun z => by omega)
    · rw [up2_ne (fun z => absurd z.1 (by decide)), up2_ne (fun z => absurd z.1 (by decide))]; exact n75
    · rw [up2_ne (fun z => absurd z.1 (by decide)), up2_ne (fun z => absurd z.1 (by decide))]; exact b9_70
    · rw [up2_ne (fun z => absurd z.1 (by decide))]; exact up2_eq
  · obtain ⟨x, hx1, hx2⟩ : ∃ x, x < p ∧ A 74 q = Int32.ofNat x := by
      rcases hx with z | z
      · exact absurd z h
      · exact z
    have l : lkA p q (b9K p so pl wh A) = up2 (b9K p so pl wh A) 70 x (Int32.ofNat p) := by
      unfold lkA
      rw [if_neg (by rw [n73]; exact h), n74, hx2, lt32 (by omega)]
    rw [l]
    refine ⟨⟨fun c y h1 h2 h3 h4 => ?_, fun y h1 h2 => ?_⟩, ?_, up2_eq, ?_, fun z => absurd z h, fun _ => ⟨?_, fun y h1 h2 => ?_⟩⟩
    · rw [up2_ne (fun z => h4 z.2), up2_ne (fun z => by omega)]; exact b9_ne (fun z => by omega)
    · have hy : y ≠ x := fun z => h2 h (by rw [z]; exact hx2)
      rw [up2_ne (fun z => absurd z.1 (by decide)), up2_ne (fun z => hy z.2)]; exact b9_ne (fun z => by omega)
    · rw [up2_ne (fun z => absurd z.1 (by decide)), up2_ne (fun z => absurd z.1 (by decide))]; exact n75
    · rw [up2_ne (fun z => absurd z.1 (by decide)), up2_ne (fun z => by omega)]; exact b9_70
    · rw [up2_ne (fun z => absurd z.1 (by decide)), up2_ne (fun z => absurd z.1 (by decide))]; exact n73
    · have hy : y = x := inj32 (by omega) (by omega) (h2.symm.trans hx2)
      rw [hy, up2_ne (fun z => absurd z.1 (by decide))]; exact up2_eq
/-- what leaves all of it alone comes behind -/
theorem FrK.st (h : FrK A A1 B r q) (k1 : ∀ c y, 73 ≤ c → c ≤ 75 → y < r → y ≠ q → A2 c y = A1 c y) (k2 : ∀ p, p < B → A2 70 p = A1 70 p) : FrK A A2 B r q := ⟨fun c y h1 h2 h3 h4 => (k1 c y h1 h2 h3 h4).trans (h.1 c y h1 h2 h3 h4), fun p h1 h2 => (k2 p h1).trans (h.2 p h1 h2)⟩
theorem LkK.st (h : LkK A A1 p q) (k1 : ∀ c, 73 ≤ c → c ≤ 75 → A2 c q = A1 c q) (k2 : ∀ x, x ≤ p → A2 70 x = A1 70 x) : LkK A A2 p q := ⟨(k1 75 (by decide) (by decide)).trans h.1, (k1 74 (by decide) (by decide)).trans h.2.1, (k2 p (Nat.le_refl _)).trans h.2.2.1, fun z => (k1 73 (by decide) (by decide)).trans (h.2.2.2.1 z), fun z => ⟨(k1 73 (by decide) (by decide)).trans (h.2.2.2.2 z).1, fun x h1 h2 => (k2 x (by omega)).trans ((h.2.2.2.2 z).2 x h1 h2)⟩⟩
end
end
section
/-! the rows of parts as they lie linked: what a reading leaves alone, piece by piece -/
/-- rows below r and which part follows which below B: as they were -/
def KpK (A A' : Nat → Nat → Int32) (B r : Nat) : Prop := (∀ c y, 73 ≤ c → c ≤ 75 → y < r → A' c y = A c y) ∧ ∀ p, p < B → A' 70 p = A 70 p
section
variable {A A' A1 A2 : Nat → Nat → Int32} {p q B r B1 r1 m j : Nat} {σ σ1 σ2 : PS}
theorem KpK.rf : KpK A A B r := ⟨fun _ _ _ _ _ => rfl, fun _ _ => rfl⟩
theorem KpK.tr (h : KpK A A1 B r) (k : KpK A1 A2 B1 r1) (hB : B ≤ B1) (hr : r ≤ r1) : KpK A A2 B r := ⟨fun c y h1 h2 h3 => (k.1 c y h1 h2 (by omega)).trans (h.1 c y h1 h2 h3), fun x h1 => (k.2 x (by omega)).trans (h.2 x h1)⟩
theorem KpK.hd (h : Hd m j σ σ1) : KpK σ.1.2.1 σ1.1.2.1 B r := ⟨fun c y h1 _ _ => h.2.1 c y (by omega), fun x _ => h.2.1 70 x (by omega)⟩
theorem KpK.fi {x : Nat} : KpK σ.1.2.1 (fiP m j x σ).1.2.1 B r := by
  have e : (fiP m j x σ).1.2.1 = up2 σ.1.2.1 71 (40 * m + j) (Int32.ofNat (40 * m + σ.1.1 0)) := rfl
  rw [e]
  exact ⟨fun c y h1 _ _ => up2_ne (fun z => by omega), fun x _ => up2_ne (fun z => absurd z.1 (by decide))⟩
theorem KpK.rn : KpK σ.1.2.1 (rwP p none σ).1.2.1 B (σ.1.1 4) ∧ (rwP p none σ).1.2.1 73 (σ.1.1 4) = -1 := by
  have e : (rwP p none σ).1.2.1 = up2 (up2 (up2 (up2 σ.1.2.1 73 (σ.1.1 4) (-1)) 74 (σ.1.1 4) (-1)) 75 (σ.1.1 4) (-1)) 69 p (Int32.ofNat (σ.1.1 4)) := rfl
  rw [e]
  refine ⟨⟨fun c y h1 h2 h3 => ?_, fun x _ => ?_⟩, ?_⟩
  · rw [up2_ne (fun z => by omega), up2_ne (fun z => by omega), up2_ne (fun z => by omega), up2_ne (fun z => by omega)]
  · rw [up2_ne (fun z => absurd z.1 (by decide)), up2_ne (fun z => absurd z.1 (by decide)), up2_ne (fun z => absurd z.1 (by decide)), up2_ne (fun z => absurd z.1 (by decide))]
  · rw [up2_ne (fun z => absurd z.1 (by decide)), up2_ne (fun z => absurd z.1 (by decide)), up2_ne (fun z => absurd z.1 (by decide))]; exact up2_eq
theorem rs_lk : (∀ c y, 73 ≤ c → c ≤ 75 → y < σ.1.1 4 → ¬ (c = 75 ∧ y = q) → (rwP p (some q) σ).1.2.1 c y = σ.1.2.1 c y) ∧ (∀ x, (rwP p (some q) σ).1.2.1 70 x = σ.1.2.1 70 x) ∧ (rwP p (some q) σ).1.2.1 73 (σ.1.1 4) = -1 := by
  have e : (rwP p (some q) σ).1.2.1 = up2 (up2 (up2 (up2 σ.1.2.1 73 (σ.1.1 4) (-1)) 74 (σ.1.1 4) (-1)) 75 (σ.1.1 4) (-1)) 75 q (Int32.ofNat (σ.1.1 4)) := rfl
  rw [e]
  refine ⟨fun c y h1 h2 h3 h4 => ?_, fun x => ?_, ?_⟩
  · rw [up2_ne h4, up2_ne (fun z => by omega), up2_ne (fun z => by omega), up2_ne (fun z => by omega)]
  · rw [up2_ne (fun z => absurd z.1 (by decide)), up2_ne (fun z => absurd z.1 (by decide)), up2_ne (fun z => absurd z.1 (by decide)), up2_ne (fun z => absurd z.1 (by decide))]
  · rw [up2_ne (fun z => absurd z.1 (by decide)), up2_ne (fun z => absurd z.1 (by decide)), up2_ne (fun z => absurd z.1 (by decide))]; exact up2_eq
theorem KpK.rs (h : r ≤ q) (h2 : r ≤ σ.1.1 4) : KpK σ.1.2.1 (rwP p (some q) σ).1.2.1 B r := ⟨fun c y h1 h2 h3 => rs_lk.1 c y h1 h2 (by omega) (fun z => by omega), fun x _ => rs_lk.2.1 x⟩
theorem FrK.kp (h : FrK A A1 B r q) (h2 : A 73 q = -1) (hr : r1 ≤ r) (hq : r1 ≤ q) : KpK A A1 B r1 := ⟨fun c y h3 h4 h5 => h.1 c y h3 h4 (by omega) (by omega), fun x h3 => h.2 x h3 (fun z => absurd h2 z)⟩
theorem FrK.by (h : FrK A A1 B r q) (k : KpK A1 A2 B1 r1) (hB : B ≤ B1) (hr : r ≤ r1) : FrK A A2 B r q := h.st (fun c y h1 h2 h3 _ => k.1 c y h1 h2 (by omega)) (fun x h1 => k.2 x (by omega))
theorem LkK.by (h : LkK A A1 p q) (k : KpK A1 A2 B1 r1) (hB : p < B1) (hr : q < r1) : LkK A A2 p q := h.st (fun c h1 h2 => k.1 c q h1 h2 hr) (fun x h1 => k.2 x (by omega))
theorem FrK.two (h : FrK A A1 B r q) (l : LkK A A1 B q) (k : FrK A1 A2 B1 r1 q) (hB : B ≤ B1) (hr : r ≤ r1) (h5 : B < 100000) : FrK A A2 B r q := by
  refine ⟨fun c y h1 h2 h3 h4 => (k.1 c y h1 h2 (by omega) h4).trans (h.1 c y h1 h2 h3 h4), fun x h1 h2 => (k.2 x (by omega) (fun _ z => ?_)).trans (h.2 x h1 h2)⟩
  rw [l.2.1] at z
  have := inj32 (by omega) (by omega) z
  omega
end
end
section
/-! the rows of parts as they lie linked: the whole reading -/
section
variable {b : Nat → Int32} {n s m : Nat} {τ : Td}
theorem nm32 {x : Nat} (h : x < 100000) : Int32.ofNat x ≠ -1 := by
  intro z
  have := congrArg Int32.toInt z
  rw [ti32 (by omega)] at this
  have e : (-1 : Int32).toInt = -1 := by decide
  rw [e] at this
  omega
def FrP0 (m : Nat) (K : List KE) (_ : Nat) (σ : PS) (r : Nat × PS × Nat) : Prop := σ.1.2.1 73 (sqK K) = -1 → FrK σ.1.2.1 r.2.1.1.2.1 (40 * m + npS σ) (σ.1.1 4) (sqK K) ∧ r.2.1.1.2.1 75 (sqK K) = σ.1.2.1 75 (sqK K) ∧ r.2.1.1.2.1 73 (sqK K) = Int32.ofNat (40 * m + npS σ)
def FrP1 (m : Nat) (K : List KE) (_ : Nat) (σ : PS) (_ : Nat) (r : Nat × PS × Nat) : Prop := σ.1.2.1 73 (sqK K) ≠ -1 → FrK σ.1.2.1 r.2.1.1.2.1 (40 * m + npS σ) (σ.1.1 4) (sqK K) ∧ r.2.1.1.2.1 75 (sqK K) = σ.1.2.1 75 (sqK K) ∧ r.2.1.1.2.1 73 (sqK K) = σ.1.2.1 73 (sqK K)
def FrP2 (m : Nat) (K : List KE) (_ : Nat) (σ : PS) (r : Nat × PS × Nat) : Prop := FrK σ.1.2.1 r.2.1.1.2.1 (40 * m + npS σ) (σ.1.1 4) (sqK K) ∧ LkK σ.1.2.1 r.2.1.1.2.1 (40 * m + npS σ) (sqK K)
def FrP3 (m : Nat) (_ : List KE) (_ : Nat) (σ : PS) (_ _ a3 _ : Nat) (_ _ : Int32) (r : Nat × PS × Nat) : Prop := σ.1.2.1 73 a3 = -1 → FrK σ.1.2.1 r.2.1.1.2.1 (40 * m + npS σ) (σ.1.1 4) a3
/-- a part that begins, and what keeps all that lay there -/
theorem fr_bg {K : List KE} {i k : Nat} {σ σ' : PS} {r : Nat × PS × Nat} {kd : Int32} {pl d : Nat} {wh : Int32} (h4 : m < 4) (hR : RQ b n s m 2 K i σ 0 0 0 r) (hk : KpK (bgP m kd pl (sqK K) d wh σ).1.2.1 σ'.1.2.1 (40 * m + (npS σ + 1)) (σ.1.1 4)) (e : r = (k, σ', r.2.2)) : FrP2 m K i σ r := by
  obtain ⟨⟨hi, h0, hP, hK, hq, -⟩, -⟩ := hR
  have hq := hq (by decide)
  have x := hP.2.2.2.2 (sqK K) hq
  have hn := hP.1
  have q := bg_lk (A := σ.1.2.1) (p := 40 * m + npS σ) (so := soK kd) (pl := pl) (q := sqK K) (wh := wh) (r := σ.1.1 4) (by omega) (by
    rcases x with z | ⟨y, z1, z2⟩
    · exact Or.inl z
    · exact Or.inr ⟨y, z1.2, z2⟩)
  have hk : KpK (bgA (40 * m + npS σ) (soK kd) pl (sqK K) wh σ.1.2.1) σ'.1.2.1 (40 * m + (npS σ + 1)) (σ.1.1 4) := hk
  rw [e]
  exact ⟨q.1.by hk (by omega) (Nat.le_refl _), q.2.by hk (by omega) hq⟩
theorem rp_fr (hS : Sto b n s) (h4 : m < 4) : ∀ g, (∀ K i σ r, i ≤ s ∧ tK b n i ≠ 0 ∧ RpI m 0 K σ 0 0 → rp b n m τ g 0 K i σ 0 0 0 0 0 0 = .ok r → FrP0 m K i σ r) ∧ (∀ K i σ a1 r, i ≤ s ∧ tK b n i ≠ 0 ∧ RpI m 1 K σ 0 0 → rp b n m τ g 1 K i σ a1 0 0 0 0 0 = .ok r → FrP1 m K i σ a1 r) ∧ (∀ K i σ r, i ≤ s ∧ tK b n i ≠ 0 ∧ RpI m 2 K σ 0 0 → rp b n m τ g 2 K i σ 0 0 0 0 0 0 = .ok r → FrP2 m K i σ r) ∧ (∀ K i σ a1 a2 a3 a4 c1 c2 r, i ≤ s ∧ tK b n i ≠ 0 ∧ RpI m 3 K σ a2 a3 → rp b n m τ g 3 K i σ a1 a2 a3 a4 c1 c2 = .ok r → FrP3 m K i σ a1 a2 a3 a4 c1 c2 r) := by
  have big : ∀ σ, PsOk m σ → 40 * m + npS σ < 100000 := fun σ h => by have := h.1; omega
  have nm1 : ∀ x, x < 100000 → Int32.ofNat x ≠ -1 := fun x h => nm32 h
  refine rp_ind hS (FrP0 m) (FrP2 m) (FrP1 m) (FrP3 m) ?_ ?_ ?_ ?_ ?_ ?_ ?_ ?_ ?_ ?_
  · intro K i σ q r hR R2 p2 R1 p1 h73
    obtain ⟨f2, l2⟩ := p2
    have f2 : FrK σ.1.2.1 q.2.1.1.2.1 (40 * m + npS σ) (σ.1.1 4) (sqK K) := f2
    have l2 : LkK σ.1.2.1 q.2.1.1.2.1 (40 * m + npS σ) (sqK K) := l2
    have hb := big _ hR.1.2.2.1
    have e73 := l2.2.2.2.1 h73
    obtain ⟨g1, g2, g3⟩ := p1 (by show q.2.1.1.2.1 73 (sqK K) ≠ -1; rw [e73]; exact nm1 _ hb)
    have v1 : npS σ ≤ npS q.2.1 := R2.2.1.1.1
    have v2 : σ.1.1 4 ≤ q.2.1.1.1 4 := R2.2.1.1.2.1
    have g1 : FrK q.2.1.1.2.1 r.2.1.1.2.1 (40 * m + npS q.2.1) (q.2.1.1.1 4) (sqK K) := g1
    exact ⟨f2.two l2 g1 (by omega) v2 hb, g2.trans l2.1, g3.trans e73⟩
  · intro K i σ a1 q r k13 hR R2 p2 R1 p1 h73
    obtain ⟨f2, l2⟩ := p2
    have hb := big _ hR.1.2.2.1
    have e73 := (l2.2.2.2.2 h73).1
    obtain ⟨g1, g2, g3⟩ := p1 (by show q.2.1.1.2.1 73 (sqK K) ≠ -1; rw [e73]; exact h73)
    have v1 : npS σ ≤ npS q.2.1 := R2.2.1.1.1
    have v2 : σ.1.1 4 ≤ q.2.1.1.1 4 := R2.2.1.1.2.1
    have g1 : FrK q.2.1.1.2.1 r.2.1.1.2.1 (40 * m + npS q.2.1) (q.2.1.1.1 4) (sqK K) := g1
    exact ⟨f2.two l2 g1 (by omega) v2 hb, g2.trans l2.1, g3.trans e73⟩
  · intro K i σ a1 k13 hR h73
    exact ⟨⟨fun _ _ _ _ _ _ => rfl, fun _ _ _ => rfl⟩, rfl, rfl⟩
  · intro K i σ u eo ko el hH hR
    exact fr_bg h4 hR ((KpK.hd hH.1).tr KpK.fi (Nat.le_refl _) (Nat.le_refl _)) rfl
  · intro K i σ h q eo k17 eh hH R3 p3 hR
    obtain ⟨n1, n2, -⟩ := bg_n (m := m) (σ := σ) (k := tK b n i) (pl := tP b n i) (q := sqK K) (d := K.length) (wh := whK (tK b n i) (tC b n i) τ)
    have e4 : h.2.1.1.1 4 = σ.1.1 4 := by rw [hH.1]; exact n2
    have en : npS h.2.1 = npS σ + 1 := by rw [← n1]; unfold npS; rw [hH.1]
    have kr := KpK.rn (σ := h.2.1) (p := 40 * m + npS σ) (B := 40 * m + (npS σ + 1))
    have wn := rw_n (σ := h.2.1) (p := 40 * m + npS σ) (q0 := none)
    have f3 := p3 kr.2
    rw [wn.1, wn.2.1, en] at f3
    have k3 := f3.kp (r1 := σ.1.1 4) kr.2 (by omega) (by omega)
    have kr1 := kr.1
    rw [e4] at kr1
    refine fr_bg h4 hR ((((KpK.hd hH).tr kr1 (Nat.le_refl _) (Nat.le_refl _)).tr k3 (by omega) (Nat.le_refl _)).tr (KpK.fi (σ := guP q.2.1 (giS σ ||| giS q.2.1) (usS σ ||| usS q.2.1))) (Nat.le_refl _) (Nat.le_refl _)) rfl
  · intro K i σ h q u eo ko k17 kc eh hH R0 p0 et hN hR
    obtain ⟨n1, n2, -⟩ := bg_n (m := m) (σ := σ) (k := tK b n i) (pl := tP b n i) (q := sqK K) (d := K.length) (wh := whK (tK b n i) (tC b n i) τ)
    have e4 : h.2.1.1.1 4 = σ.1.1 4 := by rw [hH.1]; exact n2
    have en : npS h.2.1 = npS σ + 1 := by rw [← n1]; unfold npS; rw [hH.1]
    have kr := KpK.rn (σ := h.2.1) (p := 40 * m + npS σ) (B := 40 * m + (npS σ + 1))
    have wn := rw_n (σ := h.2.1) (p := 40 * m + npS σ) (q0 := none)
    obtain ⟨f3, -, -⟩ := p0 kr.2
    rw [wn.1, wn.2.1, en] at f3
    have k3 := f3.kp (r1 := σ.1.1 4) kr.2 (by omega) (by show _ ≤ h.2.1.1.1 4; omega)
    have kr1 := kr.1
    rw [e4] at kr1
    exact fr_bg h4 hR (((((KpK.hd hH).tr kr1 (Nat.le_refl _) (Nat.le_refl _)).tr k3 (by omega) (Nat.le_refl _)).tr (KpK.hd hN.1) (Nat.le_refl _) (Nat.le_refl _)).tr KpK.fi (Nat.le_refl _) (Nat.le_refl _)) rfl
  · intro K i σ h q t u eo ko kc eh hH R0 p0 k46 R4 p4 ec hN hR
    obtain ⟨n1, n2, -⟩ := bg_n (m := m) (σ := σ) (k := tK b n i) (pl := tP b n i) (q := sqK K) (d := K.length) (wh := whK (tK b n i) (tC b n i) τ)
    have e4 : h.2.1.1.1 4 = σ.1.1 4 := by rw [hH.1]; exact n2
    have en : npS h.2.1 = npS σ + 1 := by rw [← n1]; unfold npS; rw [hH.1]
    have kr := KpK.rn (σ := h.2.1) (p := 40 * m + npS σ) (B := 40 * m + (npS σ + 1))
    have wn := rw_n (σ := h.2.1) (p := 40 * m + npS σ) (q0 := none)
    obtain ⟨f3, -, -⟩ := p0 kr.2
    rw [wn.1, wn.2.1, en] at f3
    have k3 := f3.kp (r1 := σ.1.1 4) kr.2 (by omega) (by show _ ≤ h.2.1.1.1 4; omega)
    have kr1 := kr.1
    rw [e4] at kr1
    have v1 : npS (rwP (40 * m + npS σ) none h.2.1) ≤ npS q.2.1 := R0.2.1.1.1
    have v2 : (rwP (40 * m + npS σ) none h.2.1).1.1 4 ≤ q.2.1.1.1 4 := R0.2.1.1.2.1
    rw [wn.1, en] at v1
    rw [wn.2.1, e4] at v2
    have ks := KpK.rs (σ := q.2.1) (p := 40 * m + npS σ) (q := h.2.1.1.1 4) (B := 40 * m + (npS σ + 1)) (r := σ.1.1 4) (by omega) (by omega)
    have w2 := rw_n (σ := q.2.1) (p := 40 * m + npS σ) (q0 := some (h.2.1.1.1 4))
    obtain ⟨f5, -, -⟩ := p4 rs_lk.2.2
    rw [w2.1, w2.2.1] at f5
    have k5 := f5.kp (r1 := σ.1.1 4) rs_lk.2.2 (by omega) (by show _ ≤ q.2.1.1.1 4; omega)
    exact fr_bg h4 hR (((((((KpK.hd hH).tr kr1 (Nat.le_refl _) (Nat.le_refl _)).tr k3 (by omega) (Nat.le_refl _)).tr ks (Nat.le_refl _) (Nat.le_refl _)).tr k5 (by omega) (Nat.le_refl _)).tr (KpK.hd hN.1) (Nat.le_refl _) (Nat.le_refl _)).tr KpK.fi (Nat.le_refl _) (Nat.le_refl _)) rfl
  · intro K i σ h q u eo ko kc eh hH R0 p0 k46 ec hN hR
    obtain ⟨n1, n2, -⟩ := bg_n (m := m) (σ := σ) (k := tK b n i) (pl := tP b n i) (q := sqK K) (d := K.length) (wh := whK (tK b n i) (tC b n i) τ)
    have e4 : h.2.1.1.1 4 = σ.1.1 4 := by rw [hH.1]; exact n2
    have en : npS h.2.1 = npS σ + 1 := by rw [← n1]; unfold npS; rw [hH.1]
    have kr := KpK.rn (σ := h.2.1) (p := 40 * m + npS σ) (B := 40 * m + (npS σ + 1))
    have wn := rw_n (σ := h.2.1) (p := 40 * m + npS σ) (q0 := none)
    obtain ⟨f3, -, -⟩ := p0 kr.2
    rw [wn.1, wn.2.1, en] at f3
    have k3 := f3.kp (r1 := σ.1.1 4) kr.2 (by omega) (by show _ ≤ h.2.1.1.1 4; omega)
    have kr1 := kr.1
    rw [e4] at kr1
    exact fr_bg h4 hR (((((KpK.hd hH).tr kr1 (Nat.le_refl _) (Nat.le_refl _)).tr k3 (by omega) (Nat.le_refl _)).tr (KpK.hd (σ := trP1 q.2.1 (mkT (trS q.2.1) 0).1) hN.1) (Nat.le_refl _) (Nat.le_refl _)).tr KpK.fi (Nat.le_refl _) (Nat.le_refl _)) rfl
  · intro K i σ a1 a2 a3 a4 c1 c2 q r hR R0 p0 k6 k8 R3 p3 h73
    obtain ⟨f0, -, -⟩ := p0 h73
    have f0 : FrK σ.1.2.1 q.2.1.1.2.1 (40 * m + npS σ) (σ.1.1 4) a3 := f0
    have bn := br_n (σ := q.2.1) (j := a2) (a := a1) (x := q.2.2) (g := c1) (u := c2)
    have v1 : npS σ ≤ npS q.2.1 := R0.2.1.1.1
    have v2 : σ.1.1 4 ≤ q.2.1.1.1 4 := R0.2.1.1.2.1
    have hl := rs_lk (σ := brP q.2.1 a2 a1 q.2.2 c1 c2) (p := 40 * m + a2) (q := a3)
    have wn := rw_n (σ := brP q.2.1 a2 a1 q.2.2 c1 c2) (p := 40 * m + a2) (q0 := some a3)
    obtain ⟨l1, l2, l3⟩ := hl
    rw [bn.1] at l1 l2 l3
    have f3 := p3 l3
    have en : npS (brP q.2.1 a2 a1 q.2.2 c1 c2) = npS q.2.1 := by unfold npS; rw [bn.1]
    rw [wn.1, wn.2.1, en, bn.1] at f3
    have k3 := f3.kp (r1 := σ.1.1 4) l3 (by omega) (by omega)
    refine ⟨fun c y h1 h2 h3 h5 => ?_, fun x h1 h2 => ?_⟩
    · rw [k3.1 c y h1 h2 h3, l1 c y h1 h2 (by omega) (fun z => h5 z.2)]
      exact f0.1 c y h1 h2 h3 h5
    · rw [k3.2 x (by omega), l2 x]
      exact f0.2 x h1 h2
  · intro K i σ a1 a2 a3 a4 c1 c2 q hR R0 p0 k6 h73
    obtain ⟨f0, -, -⟩ := p0 h73
    have f0 : FrK σ.1.2.1 q.2.1.1.2.1 (40 * m + npS σ) (σ.1.1 4) a3 := f0
    have bn := br_n (σ := q.2.1) (j := a2) (a := a1) (x := q.2.2) (g := c1) (u := c2)
    show FrK σ.1.2.1 (brP q.2.1 a2 a1 q.2.2 c1 c2).1.2.1 _ _ _
    rw [bn.1]
    exact f0
end
end
section
/-! parts as a tree: what reference's rows, class's parts and class's nodes say together -/
/-- reference's arrays, parts' fields, view of the nodes, their codes, literals of conditions, which conditions are whole, literals of ifs, given and used from part to part -/
abbrev Wo : Type := (Nat → Nat → Int32) × (Nat → Nat → Int32) × Vw × (Nat → Int32) × (Nat → Nat) × (Nat → Nat → Prop) × (Nat → Int32) × (Nat → Nat → Int32) × (Nat → Nat → Int32)
def woA (W : Wo) : Nat → Nat → Int32 := W.1
def woP (W : Wo) : Nat → Nat → Int32 := W.2.1
def woV (W : Wo) : Vw := W.2.2.1
def woC (W : Wo) : Nat → Int32 := W.2.2.2.1
def woZ (W : Wo) : Nat → Nat := W.2.2.2.2.1
def woQ (W : Wo) : Nat → Nat → Prop := W.2.2.2.2.2.1
def woF (W : Wo) : Nat → Int32 := W.2.2.2.2.2.2.1
def woG (W : Wo) : Nat → Nat → Int32 := W.2.2.2.2.2.2.2.1
def woU (W : Wo) : Nat → Nat → Int32 := W.2.2.2.2.2.2.2.2
/-- a part is followed by these, the last by none; a row of parts -/
def ChA (A : Nat → Nat → Int32) : Nat → List Nat → Prop
  | a, [] => A 70 a = -1
  | a, x :: t => A 70 a = Int32.ofNat x ∧ ChA A x t
def RwA (A : Nat → Nat → Int32) (q a : Nat) (t : List Nat) : Prop := A 73 q = Int32.ofNat a ∧ A 74 q = Int32.ofNat (t.getLastD a) ∧ ChA A a t
/-- part P's condition and its literal -/
def CdW (W : Wo) (m zn P : Nat) (l : Int32) : Prop := ∃ f c, f ≤ c ∧ c < zn ∧ woA W 62 P = Int32.ofNat (410 * m + f) ∧ woA W 63 P = Int32.ofNat (410 * m + c) ∧ woQ W f c ∧ l = Int32.ofNat (woZ W c)
def bI (x : Bool) : Int32 := if x = true then 1 else 0
def hpK (k : Int32) : Nat := if k = 53 then 1 else 0
/-- the trap at v among the open ones is part e, one with a name -/
def trX : List KE → Nat → Nat → Prop
  | [], _, _ => False
  | e :: K, v, x => match e.2.2.2 with
    | none => trX K v x
    | some c => (v = 0 ∧ x = e.1 ∧ c ≠ 0) ∨ ∃ u, v = u + 1 ∧ trX K u x
/-- the trap that a part of kind k opens -/
def tpK (k : Int32) (t : Option Int64) : Prop := if k = 55 then ∃ c, t = some c ∧ c ≠ 0 else if k = 49 ∨ k = 50 ∨ k = 53 then t = some 0 else t = none
/-- what part j of kind k looks like: node x, its rows' nodes ys; p, pb: pauses at its begin, behind its rows -/
def PkS (W : Wo) (m zn fn lo hi : Nat) (k : Int32) (K : List KE) (j p pb x : Nat) (ys : List Nat) : Prop :=
  if k = 38 then lfS (woV W) lo hi x 1 (Int32.ofNat p) ∧ ys = []
  else if k = 39 then haS (woV W) lo hi x p ∧ ys = []
  else if k = 40 then (∃ v, woA W 60 (40 * m + j) = Int32.ofNat v ∧ lfS (woV W) lo hi x 2 (Int32.ofNat v)) ∧ ys = []
  else if k = 41 then (∃ v, woA W 60 (40 * m + j) = Int32.ofNat v ∧ stS (woV W) lo hi x v p) ∧ ys = []
  else if k = 47 then (∃ l im, CdW W m zn (40 * m + j) l ∧ woA W 61 (40 * m + j) = bI im ∧ awS (woV W) lo hi x l im p) ∧ ys = []
  else if k = 57 then (∃ v e, v < 16 ∧ woA W 60 (40 * m + j) = Int32.ofNat e ∧ trX K v e ∧ lfS (woV W) lo hi x 3 (2 + Int32.ofNat v)) ∧ ys = []
  else if k = 42 then ∃ y, ys = [y] ∧ ndS (woV W) lo hi x 6 0 [y]
  else if k = 44 then ∃ y z l, CdW W m zn (40 * m + j) l ∧ ndS (woV W) lo hi x 4 l [y, z] ∧ (ys = [y, z] ∨ ys = [y] ∧ lfS (woV W) lo hi z 0 0)
  else if k = 58 then ∃ y z f, f < fn ∧ woP W j 4 = Int32.ofNat f ∧ ndS (woV W) lo hi x 4 (woF W f) [y, z] ∧ (ys = [y, z] ∨ ys = [y] ∧ lfS (woV W) lo hi z 0 0)
  else if k = 49 then ∃ y l im, ys = [y] ∧ CdW W m zn (40 * m + j) l ∧ woA W 61 (40 * m + j) = bI im ∧ aiS (woV W) lo hi x y l im pb
  else if k = 50 then ∃ y l im, ys = [y] ∧ CdW W m zn (40 * m + j) l ∧ woA W 61 (40 * m + j) = bI im ∧ wkS (woV W) lo hi x y l im pb
  else if k = 52 then ∃ y l, ys = [y] ∧ CdW W m zn (40 * m + j) l ∧ ndS (woV W) lo hi x 7 l [y]
  else if k = 53 then ∃ y l im aw, ys = [y] ∧ CdW W m zn (40 * m + j) l ∧ woA W 61 (40 * m + j) = bI im ∧ awS (woV W) lo hi aw l im p ∧ evS (woV W) lo hi x y aw l pb (pb + 1)
  else if k = 55 then ∃ y, ys = [y] ∧ ndS (woV W) lo hi x 9 0 [y]
  else if k = 17 then ndS (woV W) lo hi x 8 0 ys
  else lfS (woV W) lo hi x 0 0 ∧ ys = []
/-- what the class found of part j: a loop that may end at once, branches that disturb each other -/
def ltK (W : Wo) (k : Int32) (j : Nat) (ys : List Nat) (fl : Bool) : Prop := woP W j 2 = if k = 42 then (if woC W (ys.headD 0) &&& 1 = 0 then 0 else 7) else if k = 17 then (if fl = true then 8 else 0) else 0
/-- what every part says -/
def PcS (W : Wo) (m : Nat) (k : Int32) (j j' x : Nat) : Prop := soK k ≠ 99 ∧ woA W 58 (40 * m + j) = Int32.ofNat (soK k) ∧ (∃ pl, woA W 59 (40 * m + j) = Int32.ofNat pl ∧ woP W j 0 = Int32.ofNat pl) ∧ woA W 71 (40 * m + j) = Int32.ofNat (40 * m + j') ∧ woP W j 1 = Int32.ofNat x
/-- a reading: mode (0 row, 1 more of it, 2 part, 3 branches), from part j to j', row r to r', pause p to p' -/
def TT (W : Wo) (m zn fn lo hi : Nat) : Nat → Nat → List KE → Nat → Nat → Nat → Int32 → Int32 → Bool → Nat → Nat → Nat → Nat → Nat → Nat → List (Nat × Nat) → Prop
  | 0, _, _, _, _, _, _, _, _, _, _, _, _, _, _, _ => False
  | g + 1, md, K, a2, a3, a4, c1, c2, fl, j, j', r, r', p, p', L =>
    if md = 0 then ∃ x jm rm pm T y, L = [(0, y)] ∧ TT W m zn fn lo hi g 2 K 0 0 0 0 0 false j jm r rm p pm [(j, x)] ∧ TT W m zn fn lo hi g 1 K 0 0 0 0 0 false jm j' rm r' pm p' T ∧ ndS (woV W) lo hi y 5 0 (x :: T.map Prod.snd) ∧ RwA (woA W) (sqK K) (40 * m + j) (T.map fun e => 40 * m + e.1)
    else if md = 1 then (L = [] ∧ j' = j ∧ r' = r ∧ p' = p) ∨ ∃ x jm rm pm T, L = (j, x) :: T ∧ TT W m zn fn lo hi g 2 K 0 0 0 0 0 false j jm r rm p pm [(j, x)] ∧ TT W m zn fn lo hi g 1 K 0 0 0 0 0 false jm j' rm r' pm p' T
    else if md = 2 then ∃ k x ys pb ff, L = [(j, x)] ∧ PcS W m k j j' x ∧ PkS W m zn fn lo hi k K j p pb x ys ∧ ltK W k j ys ff ∧ p' = pb + (paK k - hpK k) ∧
      ((opnK k = false ∧ j' = j + 1 ∧ r' = r ∧ pb = p ∧ woA W 69 (40 * m + j) = -1)
      ∨ (k = 17 ∧ woA W 69 (40 * m + j) = Int32.ofNat r ∧ ∃ T, ys = T.map Prod.snd ∧ TT W m zn fn lo hi g 3 K j r 1 0 0 ff (j + 1) j' (r + 1) r' p pb T)
      ∨ (opnK k = true ∧ k ≠ 17 ∧ woA W 69 (40 * m + j) = Int32.ofNat r ∧ ∃ t jm rm pm y, tpK k t ∧ TT W m zn fn lo hi g 0 ((40 * m + j, r, 1, t) :: K) 0 0 0 0 0 false (j + 1) jm (r + 1) rm (p + hpK k) pm [(0, y)] ∧
        ((ys = [y] ∧ j' = jm ∧ r' = rm ∧ pb = pm ∧ woA W 75 r = -1) ∨ ((k = 44 ∨ k = 58) ∧ woA W 75 r = Int32.ofNat rm ∧ woA W 75 rm = -1 ∧ ∃ z, ys = [y, z] ∧ TT W m zn fn lo hi g 0 ((40 * m + j, rm, 2, none) :: K) 0 0 0 0 0 false jm j' (rm + 1) r' pm pb [(0, z)]))))
    else ∃ jm rm pm y, TT W m zn fn lo hi g 0 ((40 * m + a2, a3, a4, none) :: K) 0 0 0 0 0 false j jm r rm p pm [(0, y)] ∧
      ((L = [(a3, y)] ∧ j' = jm ∧ r' = rm ∧ p' = pm ∧ woA W 75 a3 = -1 ∧ fl = !decide (woG W j jm &&& (c1 ||| c2) = 0 ∧ woU W j jm &&& c1 = 0))
      ∨ ∃ T f2, L = (a3, y) :: T ∧ woA W 75 a3 = Int32.ofNat rm ∧ fl = (!decide (woG W j jm &&& (c1 ||| c2) = 0 ∧ woU W j jm &&& c1 = 0) || f2) ∧ TT W m zn fn lo hi g 3 K a2 rm (a4 + 1) (c1 ||| woG W j jm) (c2 ||| woU W j jm) f2 jm j' (rm + 1) r' pm p' T)
section
variable {W W' : Wo} {m zn fn lo hi : Nat}
theorem TT.le : ∀ (g md : Nat) (K : List KE) (a2 a3 a4 : Nat) (c1 c2 : Int32) (fl : Bool) (j j' r r' p p' : Nat) (L : List (Nat × Nat)), md ≤ 3 → TT W m zn fn lo hi g md K a2 a3 a4 c1 c2 fl j j' r r' p p' L → j ≤ j' ∧ r ≤ r' ∧ p ≤ p' ∧ (md ≠ 1 → j < j') := by
  intro g
  induction g with
  | zero => intro md K a2 a3 a4 c1 c2 fl j j' r r' p p' L _ h; unfold TT at h; exact h.elim
  | succ g ih =>
    intro md K a2 a3 a4 c1 c2 fl j j' r r' p p' L hm h
    unfold TT at h
    by_cases m0 : md = 0
    · rw [if_pos m0] at h
      obtain ⟨x, jm, rm, pm, T, y, -, h1, h2, -⟩ := h
      have a := ih 2 _ _ _ _ _ _ _ _ _ _ _ _ _ _ (by decide) h1
      have c := ih 1 _ _ _ _ _ _ _ _ _ _ _ _ _ _ (by decide) h2
      have := a.2.2.2 (by decide)
      exact ⟨by omega, by omega, by omega, fun _ => by omega⟩
    rw [if_neg m0] at h
    by_cases m1 : md = 1
    · rw [if_pos m1] at h
      rcases h with ⟨-, h1, h2, h3⟩ | ⟨x, jm, rm, pm, T, -, h1, h2⟩
      · exact ⟨by omega, by omega, by omega, fun z => absurd m1 z⟩
      · have a := ih 2 _ _ _ _ _ _ _ _ _ _ _ _ _ _ (by decide) h1
        have c := ih 1 _ _ _ _ _ _ _ _ _ _ _ _ _ _ (by decide) h2
        exact ⟨by omega, by omega, by omega, fun z => absurd m1 z⟩
    rw [if_neg m1] at h
    by_cases m2 : md = 2
    · rw [if_pos m2] at h
      obtain ⟨k, x, ys, pb, ff, -, -, -, -, hp, h⟩ := h
      rcases h with ⟨-, h1, h2, h3, -⟩ | ⟨-, -, T, -, h1⟩ | ⟨-, -, -, t, jm, rm, pm, y, -, h1, h⟩
      · exact ⟨by omega, by omega, by omega, fun _ => by omega⟩
      · have a := ih 3 _ _ _ _ _ _ _ _ _ _ _ _ _ _ (by decide) h1
        exact ⟨by omega, by omega, by omega, fun _ => by omega⟩
      · have a := ih 0 _ _ _ _ _ _ _ _ _ _ _ _ _ _ (by decide) h1
        rcases h with ⟨-, h2, h3, h4, -⟩ | ⟨-, -, -, z, -, h2⟩
        · exact ⟨by omega, by omega, by omega, fun _ => by omega⟩
        · have c := ih 0 _ _ _ _ _ _ _ _ _ _ _ _ _ _ (by decide) h2
          exact ⟨by omega, by omega, by omega, fun _ => by omega⟩
    rw [if_neg m2] at h
    obtain ⟨jm, rm, pm, y, h1, h⟩ := h
    have a := ih 0 _ _ _ _ _ _ _ _ _ _ _ _ _ _ (by decide) h1
    have a4 := a.2.2.2 (by decide)
    rcases h with ⟨-, h2, h3, h4, -⟩ | ⟨T, f2, -, -, -, h2⟩
    · exact ⟨by omega, by omega, by omega, fun _ => by omega⟩
    · have c := ih 3 _ _ _ _ _ _ _ _ _ _ _ _ _ _ (by decide) h2
      exact ⟨by omega, by omega, by omega, fun _ => by omega⟩
end
end
section
/-! parts as a tree: what comes later leaves it alone -/
/-- two worlds alike in parts j to j', rows r to r', nodes lo to hi -/
def WSt (W W' : Wo) (m zn fn lo hi j j' r r' : Nat) : Prop := (∀ c P, 58 ≤ c → c ≤ 72 → c ≠ 70 → 40 * m + j ≤ P → P < 40 * m + j' → woA W' c P = woA W c P) ∧ (∀ P, 40 * m + j < P → P < 40 * m + j' → woA W' 70 P = woA W 70 P) ∧ (∀ c q, 73 ≤ c → c ≤ 75 → r ≤ q → q < r' → woA W' c q = woA W c q) ∧ (∀ i f, j ≤ i → i < j' → woP W' i f = woP W i f) ∧ Sm (woV W) (woV W') lo hi ∧ (∀ y, lo ≤ y → y < hi → woC W' y = woC W y) ∧ (∀ c, c < zn → woZ W' c = woZ W c) ∧ (∀ f c, c < zn → woQ W f c → woQ W' f c) ∧ (∀ f, f < fn → woF W' f = woF W f) ∧ ∀ x y, j ≤ x → y ≤ j' → woG W' x y = woG W x y ∧ woU W' x y = woU W x y
section
variable {W W' : Wo} {m zn fn lo hi zn' fn' lo' hi' j j' r r' : Nat}
theorem WSt.sub {a b' c d : Nat} (h : WSt W W' m zn fn lo hi j j' r r') (h1 : j ≤ a) (h2 : b' ≤ j') (h3 : r ≤ c) (h4 : d ≤ r') : WSt W W' m zn fn lo hi a b' c d := by
  obtain ⟨q1, q2, q3, q4, q5, q6, q7, q8, q9, q10⟩ := h
  exact ⟨fun c P z1 z2 z3 z4 z5 => q1 c P z1 z2 z3 (by omega) (by omega), fun P z1 z2 => q2 P (by omega) (by omega), fun c q z1 z2 z3 z4 => q3 c q z1 z2 (by omega) (by omega), fun i f z1 z2 => q4 i f (by omega) (by omega), q5, q6, q7, q8, q9, fun x y z1 z2 => q10 x y (by omega) (by omega)⟩
theorem aiS.st {w w' : Vw} {x body p : Nat} {l : Int32} {im : Bool} (h : aiS w lo hi x body l im p) (s : Sm w w' lo hi) (h1 : lo' ≤ lo) (h2 : hi ≤ hi') : aiS w' lo' hi' x body l im p := by
  cases im with
  | false => rw [aiS_f] at h ⊢; exact h.st s h1 h2
  | true =>
    rw [aiS_t] at h ⊢
    obtain ⟨no, z, a1, a2, a3⟩ := h
    exact ⟨no, z, a1.st s h1 h2, a2.st s h1 h2, a3.st s h1 h2⟩
theorem ChA.st {A A' : Nat → Nat → Int32} : ∀ (t : List Nat) (a : Nat), ChA A a t → A' 70 a = A 70 a → (∀ x, x ∈ t → A' 70 x = A 70 x) → ChA A' a t
  | [], a, h, e, _ => e.trans h
  | x :: t, a, h, e, k => ⟨e.trans h.1, ChA.st t x h.2 (k x (List.mem_cons_self ..)) (fun y z => k y (List.mem_cons_of_mem _ z))⟩
variable (hz : zn ≤ zn') (hf : fn ≤ fn') (hl : lo' ≤ lo) (hh : hi ≤ hi')
theorem CdW.st {l : Int32} {P : Nat} (h : CdW W m zn P l) (s : WSt W W' m zn fn lo hi j j' r r') (hz : zn ≤ zn') (h1 : 40 * m + j ≤ P) (h2 : P < 40 * m + j') : CdW W' m zn' P l := by
  obtain ⟨f, c, a1, a2, a3, a4, a5, a6⟩ := h
  obtain ⟨q1, q2, q3, q4, q5, q6, q7, q8, q9, q10⟩ := s
  exact ⟨f, c, a1, by omega, (q1 62 P (by decide) (by decide) (by decide) h1 h2).trans a3, (q1 63 P (by decide) (by decide) (by decide) h1 h2).trans a4, q8 f c a2 a5, by rw [q7 c a2]; exact a6⟩
theorem PkS.st {k : Int32} {K : List KE} {p pb x : Nat} {ys : List Nat} (h : PkS W m zn fn lo hi k K j p pb x ys) (s : WSt W W' m zn fn lo hi j j' r r') (hz : zn ≤ zn') (hf : fn ≤ fn') (hl : lo' ≤ lo) (hh : hi ≤ hi') (hj : j < j') : PkS W' m zn' fn' lo' hi' k K j p pb x ys := by
  have cd : ∀ l, CdW W m zn (40 * m + j) l → CdW W' m zn' (40 * m + j) l := fun l z => z.st s hz (by omega) (by omega)
  have s0 := s
  obtain ⟨q1, q2, q3, q4, q5, q6, q7, q8, q9, q10⟩ := s
  have a60 := q1 60 (40 * m + j) (by decide) (by decide) (by decide) (by omega) (by omega)
  have a61 := q1 61 (40 * m + j) (by decide) (by decide) (by decide) (by omega) (by omega)
  unfold PkS at h ⊢
  rw [a60, a61]
  by_cases k1 : k = 38
  · rw [if_pos k1] at h ⊢; exact ⟨h.1.st q5 hl hh, h.2⟩
  rw [if_neg k1] at h ⊢
  by_cases k2 : k = 39
  · rw [if_pos k2] at h ⊢; exact ⟨h.1.st q5 hl hh, h.2⟩
  rw [if_neg k2] at h ⊢
  by_cases k3 : k = 40
  · rw [if_pos k3] at h ⊢
    obtain ⟨⟨v, b1, b2⟩, b3⟩ := h
    exact ⟨⟨v, b1, b2.st q5 hl hh⟩, b3⟩
  rw [if_neg k3] at h ⊢
  by_cases k4 : k = 41
  · rw [if_pos k4] at h ⊢
    obtain ⟨⟨v, b1, b2⟩, b3⟩ := h
    exact ⟨⟨v, b1, b2.st q5 hl hh⟩, b3⟩
  rw [if_neg k4] at h ⊢
  by_cases k5 : k = 47
  · rw [if_pos k5] at h ⊢
    obtain ⟨⟨l, im, b1, b2, b3⟩, b4⟩ := h
    exact ⟨⟨l, im, cd l b1, b2, b3.st q5 hl hh⟩, b4⟩
  rw [if_neg k5] at h ⊢
  by_cases k6 : k = 57
  · rw [if_pos k6] at h ⊢
    obtain ⟨⟨v, e, b0, b1, b2, b3⟩, b4⟩ := h
    exact ⟨⟨v, e, b0, b1, b2, b3.st q5 hl hh⟩, b4⟩
  rw [if_neg k6] at h ⊢
  by_cases k7 : k = 42
  · rw [if_pos k7] at h ⊢
    obtain ⟨y, b1, b2⟩ := h
    exact ⟨y, b1, b2.st q5 hl hh⟩
  rw [if_neg k7] at h ⊢
  by_cases k8 : k = 44
  · rw [if_pos k8] at h ⊢
    obtain ⟨y, z, l, b1, b2, b3⟩ := h
    exact ⟨y, z, l, cd l b1, b2.st q5 hl hh, b3.imp id (fun w => ⟨w.1, w.2.st q5 hl hh⟩)⟩
  rw [if_neg k8] at h ⊢
  by_cases k9 : k = 58
  · rw [if_pos k9] at h ⊢
    obtain ⟨y, z, f, b0, b1, b2, b3⟩ := h
    refine ⟨y, z, f, by omega, (q4 j 4 (Nat.le_refl _) hj).trans b1, ?_, b3.imp id (fun w => ⟨w.1, w.2.st q5 hl hh⟩)⟩
    rw [q9 f b0]
    exact b2.st q5 hl hh
  rw [if_neg k9] at h ⊢
  by_cases k10 : k = 49
  · rw [if_pos k10] at h ⊢
    obtain ⟨y, l, im, b0, b1, b2, b3⟩ := h
    exact ⟨y, l, im, b0, cd l b1, b2, b3.st q5 hl hh⟩
  rw [if_neg k10] at h ⊢
  by_cases k11 : k = 50
  · rw [if_pos k11] at h ⊢
    obtain ⟨y, l, im, b0, b1, b2, b3⟩ := h
    exact ⟨y, l, im, b0, cd l b1, b2, b3.st q5 hl hh⟩
  rw [if_neg k11] at h ⊢
  by_cases k12 : k = 52
  · rw [if_pos k12] at h ⊢
    obtain ⟨y, l, b0, b1, b2⟩ := h
    exact ⟨y, l, b0, cd l b1, b2.st q5 hl hh⟩
  rw [if_neg k12] at h ⊢
  by_cases k13 : k = 53
  · rw [if_pos k13] at h ⊢
    obtain ⟨y, l, im, aw, b0, b1, b2, b3, b4⟩ := h
    exact ⟨y, l, im, aw, b0, cd l b1, b2, b3.st q5 hl hh, b4.st q5 hl hh⟩
  rw [if_neg k13] at h ⊢
  by_cases k14 : k = 55
  · rw [if_pos k14] at h ⊢
    obtain ⟨y, b1, b2⟩ := h
    exact ⟨y, b1, b2.st q5 hl hh⟩
  rw [if_neg k14] at h ⊢
  by_cases k15 : k = 17
  · rw [if_pos k15] at h ⊢; exact h.st q5 hl hh
  rw [if_neg k15] at h ⊢
  exact ⟨h.1.st q5 hl hh, h.2⟩
theorem PcS.st {k : Int32} {x : Nat} (h : PcS W m k j j' x) (s : WSt W W' m zn fn lo hi j j' r r') (hj : j < j') : PcS W' m k j j' x := by
  obtain ⟨h1, h2, ⟨pl, h3, h4⟩, h5, h6⟩ := h
  obtain ⟨q1, q2, q3, q4, -⟩ := s
  have e := fun c z1 z2 z3 => q1 c (40 * m + j) z1 z2 z3 (by omega) (by omega)
  exact ⟨h1, (e 58 (by decide) (by decide) (by decide)).trans h2, ⟨pl, (e 59 (by decide) (by decide) (by decide)).trans h3, (q4 j 0 (Nat.le_refl _) hj).trans h4⟩, (e 71 (by decide) (by decide) (by decide)).trans h5, (q4 j 1 (Nat.le_refl _) hj).trans h6⟩
theorem ltK.st {k : Int32} {ys : List Nat} {fl : Bool} (h : ltK W k j ys fl) (s : WSt W W' m zn fn lo hi j j' r r') (hj : j < j') (hy : k = 42 → lo ≤ ys.headD 0 ∧ ys.headD 0 < hi) : ltK W' k j ys fl := by
  obtain ⟨q1, q2, q3, q4, q5, q6, -⟩ := s
  unfold ltK at h ⊢
  rw [q4 j 2 (Nat.le_refl _) hj, h]
  by_cases k1 : k = 42
  · rw [if_pos k1, if_pos k1, q6 _ (hy k1).1 (hy k1).2]
  · rw [if_neg k1, if_neg k1]
end
end
section
/-! parts as a tree: a reading stays as later ones come -/
section
variable {W W' : Wo} {m zn fn lo hi zn' fn' lo' hi' : Nat}
theorem TT.row {g : Nat} {K : List KE} {a2 a3 a4 : Nat} {c1 c2 : Int32} {fl : Bool} {j j' r r' p p' : Nat} {L : List (Nat × Nat)} (h : TT W m zn fn lo hi g 0 K a2 a3 a4 c1 c2 fl j j' r r' p p' L) : ∃ y, L = [(0, y)] ∧ lo ≤ y ∧ y < hi := by
  cases g with
  | zero => unfold TT at h; exact h.elim
  | succ g =>
    unfold TT at h
    rw [if_pos rfl] at h
    obtain ⟨x, jm, rm, pm, T, y, e, h1, h2, h3, h4⟩ := h
    exact ⟨y, e, h3.1⟩
theorem TT.mem : ∀ (g : Nat) (K : List KE) (a2 a3 a4 : Nat) (c1 c2 : Int32) (fl : Bool) (j j' r r' p p' : Nat) (L : List (Nat × Nat)), TT W m zn fn lo hi g 1 K a2 a3 a4 c1 c2 fl j j' r r' p p' L → ∀ e, e ∈ L → j ≤ e.1 ∧ e.1 < j' := by
  intro g
  induction g with
  | zero => intro K a2 a3 a4 c1 c2 fl j j' r r' p p' L h; unfold TT at h; exact h.elim
  | succ g ih =>
    intro K a2 a3 a4 c1 c2 fl j j' r r' p p' L h e he
    unfold TT at h
    rw [if_neg (by decide), if_pos rfl] at h
    rcases h with ⟨h1, -⟩ | ⟨x, jm, rm, pm, T, h1, h2, h3⟩
    · rw [h1] at he; cases he
    · have a := TT.le _ 2 _ _ _ _ _ _ _ _ _ _ _ _ _ _ (by decide) h2
      have c := TT.le _ 1 _ _ _ _ _ _ _ _ _ _ _ _ _ _ (by decide) h3
      have a4 := a.2.2.2 (by decide)
      rw [h1] at he
      rcases List.mem_cons.mp he with z | z
      · rw [z]; show j ≤ j ∧ j < j'; omega
      · have := ih _ _ _ _ _ _ _ _ _ _ _ _ _ _ h3 e z
        omega
theorem TT.st (hz : zn ≤ zn') (hf : fn ≤ fn') (hl : lo' ≤ lo) (hh : hi ≤ hi') : ∀ (g md : Nat) (K : List KE) (a2 a3 a4 : Nat) (c1 c2 : Int32) (fl : Bool) (j j' r r' p p' : Nat) (L : List (Nat × Nat)), md ≤ 3 → TT W m zn fn lo hi g md K a2 a3 a4 c1 c2 fl j j' r r' p p' L → WSt W W' m zn fn lo hi j j' r r' → (md = 0 → woA W' 73 (sqK K) = woA W 73 (sqK K) ∧ woA W' 74 (sqK K) = woA W 74 (sqK K) ∧ woA W' 70 (40 * m + j) = woA W 70 (40 * m + j)) → (md = 3 → (∀ c, 73 ≤ c → c ≤ 75 → woA W' c a3 = woA W c a3) ∧ woA W' 70 (40 * m + j) = woA W 70 (40 * m + j)) → TT W' m zn' fn' lo' hi' g md K a2 a3 a4 c1 c2 fl j j' r r' p p' L := by
  intro g
  induction g with
  | zero => intro md K a2 a3 a4 c1 c2 fl j j' r r' p p' L _ h; unfold TT at h; exact h.elim
  | succ g ih =>
    intro md K a2 a3 a4 c1 c2 fl j j' r r' p p' L hm h s s0 s3
    have no0 : ∀ {md : Nat} {P : Prop}, md ≠ 0 → md = 0 → P := fun a b' => absurd b' a
    have no3 : ∀ {md : Nat} {P : Prop}, md ≠ 3 → md = 3 → P := fun a b' => absurd b' a
    unfold TT at h ⊢
    by_cases m0 : md = 0
    · rw [if_pos m0] at h ⊢
      obtain ⟨x, jm, rm, pm, T, y, e, h1, h2, h3, h4, h5, h6⟩ := h
      have a := TT.le _ 2 _ _ _ _ _ _ _ _ _ _ _ _ _ _ (by decide) h1
      have c := TT.le _ 1 _ _ _ _ _ _ _ _ _ _ _ _ _ _ (by decide) h2
      have a9 := a.2.2.2 (by decide)
      obtain ⟨t1, t2, t3⟩ := s0 m0
      refine ⟨x, jm, rm, pm, T, y, e, ih 2 _ _ _ _ _ _ _ _ _ _ _ _ _ _ (by decide) h1 (s.sub (by omega) (by omega) (by omega) (by omega)) (no0 (by decide)) (no3 (by decide)), ih 1 _ _ _ _ _ _ _ _ _ _ _ _ _ _ (by decide) h2 (s.sub (by omega) (by omega) (by omega) (by omega)) (no0 (by decide)) (no3 (by decide)), h3.st s.2.2.2.2.1 hl hh, t1.trans h4, t2.trans h5, ChA.st _ _ h6 t3 (fun z hzz => ?_)⟩
      obtain ⟨e2, he2, rfl⟩ := List.mem_map.mp hzz
      have := TT.mem _ _ _ _ _ _ _ _ _ _ _ _ _ _ _ h2 e2 he2
      exact s.2.1 _ (by omega) (by omega)
    rw [if_neg m0] at h ⊢
    by_cases m1 : md = 1
    · rw [if_pos m1] at h ⊢
      rcases h with h | ⟨x, jm, rm, pm, T, e, h1, h2⟩
      · exact Or.inl h
      · have a := TT.le _ 2 _ _ _ _ _ _ _ _ _ _ _ _ _ _ (by decide) h1
        have c := TT.le _ 1 _ _ _ _ _ _ _ _ _ _ _ _ _ _ (by decide) h2
        exact Or.inr ⟨x, jm, rm, pm, T, e, ih 2 _ _ _ _ _ _ _ _ _ _ _ _ _ _ (by decide) h1 (s.sub (by omega) (by omega) (by omega) (by omega)) (no0 (by decide)) (no3 (by decide)), ih 1 _ _ _ _ _ _ _ _ _ _ _ _ _ _ (by decide) h2 (s.sub (by omega) (by omega) (by omega) (by omega)) (no0 (by decide)) (no3 (by decide))⟩
    rw [if_neg m1] at h ⊢
    by_cases m2 : md = 2
    · rw [if_pos m2] at h ⊢
      obtain ⟨k, x, ys, pb, ff, e, b1, b2, b3, b4, h⟩ := h
      rcases h with ⟨o1, o2, o3, o4, o5⟩ | ⟨o1, o2, T, o3, h1⟩ | ⟨o1, o2, o3, t, jm, rm, pm, y, o4, h1, h⟩
      · have hj : j < j' := by omega
        have a69 := s.1 69 (40 * m + j) (by decide) (by decide) (by decide) (by omega) (by omega)
        refine ⟨k, x, ys, pb, ff, e, b1.st s hj, b2.st s hz hf hl hh hj, b3.st s hj (fun z => ?_), b4, Or.inl ⟨o1, o2, o3, o4, a69.trans o5⟩⟩
        rw [z] at o1; exact absurd o1 (by decide)
      · have a := TT.le _ 3 _ _ _ _ _ _ _ _ _ _ _ _ _ _ (by decide) h1
        have hj : j < j' := by omega
        have a69 := s.1 69 (40 * m + j) (by decide) (by decide) (by decide) (by omega) (by omega)
        refine ⟨k, x, ys, pb, ff, e, b1.st s hj, b2.st s hz hf hl hh hj, b3.st s hj (fun z => ?_), b4, Or.inr (Or.inl ⟨o1, a69.trans o2, T, o3, ?_⟩)⟩
        · rw [z] at o1; exact absurd o1 (by decide)
        · have a9 := a.2.2.2 (by decide)
          exact ih 3 _ _ _ _ _ _ _ _ _ _ _ _ _ _ (by decide) h1 (s.sub (by omega) (by omega) (by omega) (by omega)) (no0 (by decide)) (fun _ => ⟨fun c z1 z2 => s.2.2.1 c r z1 z2 (by omega) (by omega), s.2.1 _ (by omega) (by omega)⟩)
      · have a := TT.le _ 0 _ _ _ _ _ _ _ _ _ _ _ _ _ _ (by decide) h1
        have a9 := a.2.2.2 (by decide)
        obtain ⟨y2, ey, r1, r2⟩ := h1.row
        have ey : y = y2 := by injection ey with q1 _; injection q1
        subst ey
        rcases h with ⟨u1, u2, u3, u4, u5⟩ | ⟨u0, u1, u2, z, u3, u4⟩
        · have hj : j < j' := by omega
          have a69 := s.1 69 (40 * m + j) (by decide) (by decide) (by decide) (by omega) (by omega)
          refine ⟨k, x, ys, pb, ff, e, b1.st s hj, b2.st s hz hf hl hh hj, b3.st s hj (fun _ => by rw [u1]; exact ⟨r1, r2⟩), b4, Or.inr (Or.inr ⟨o1, o2, a69.trans o3, t, jm, rm, pm, y, o4, ?_, Or.inl ⟨u1, u2, u3, u4, (s.2.2.1 75 r (by decide) (by decide) (by omega) (by omega)).trans u5⟩⟩)⟩
          exact ih 0 _ _ _ _ _ _ _ _ _ _ _ _ _ _ (by decide) h1 (s.sub (by omega) (by omega) (by omega) (by omega)) (fun _ => ⟨s.2.2.1 73 r (by decide) (by decide) (by omega) (by omega), s.2.2.1 74 r (by decide) (by decide) (by omega) (by omega), s.2.1 _ (by omega) (by omega)⟩) (no3 (by decide))
        · have c := TT.le _ 0 _ _ _ _ _ _ _ _ _ _ _ _ _ _ (by decide) u4
          have c9 := c.2.2.2 (by decide)
          have hj : j < j' := by omega
          have a69 := s.1 69 (40 * m + j) (by decide) (by decide) (by decide) (by omega) (by omega)
          refine ⟨k, x, ys, pb, ff, e, b1.st s hj, b2.st s hz hf hl hh hj, b3.st s hj (fun _ => by rw [u3]; exact ⟨r1, r2⟩), b4, Or.inr (Or.inr ⟨o1, o2, a69.trans o3, t, jm, rm, pm, y, o4, ?_, Or.inr ⟨u0, (s.2.2.1 75 r (by decide) (by decide) (by omega) (by omega)).trans u1, (s.2.2.1 75 rm (by decide) (by decide) (by omega) (by omega)).trans u2, z, u3, ?_⟩⟩)⟩
          · exact ih 0 _ _ _ _ _ _ _ _ _ _ _ _ _ _ (by decide) h1 (s.sub (by omega) (by omega) (by omega) (by omega)) (fun _ => ⟨s.2.2.1 73 r (by decide) (by decide) (by omega) (by omega), s.2.2.1 74 r (by decide) (by decide) (by omega) (by omega), s.2.1 _ (by omega) (by omega)⟩) (no3 (by decide))
          · exact ih 0 _ _ _ _ _ _ _ _ _ _ _ _ _ _ (by decide) u4 (s.sub (by omega) (by omega) (by omega) (by omega)) (fun _ => ⟨s.2.2.1 73 rm (by decide) (by decide) (by omega) (by omega), s.2.2.1 74 rm (by decide) (by decide) (by omega) (by omega), s.2.1 _ (by omega) (by omega)⟩) (no3 (by decide))
    rw [if_neg m2] at h ⊢
    have m3 : md = 3 := by omega
    obtain ⟨t1, t2⟩ := s3 m3
    obtain ⟨jm, rm, pm, y, h1, h⟩ := h
    have a := TT.le _ 0 _ _ _ _ _ _ _ _ _ _ _ _ _ _ (by decide) h1
    have a9 := a.2.2.2 (by decide)
    rcases h with ⟨u1, u2, u3, u4, u5, u6⟩ | ⟨T, f2, u1, u2, u3, u4⟩
    · have g1 := s.2.2.2.2.2.2.2.2.2 j jm (Nat.le_refl _) (by omega)
      refine ⟨jm, rm, pm, y, ih 0 _ _ _ _ _ _ _ _ _ _ _ _ _ _ (by decide) h1 (s.sub (by omega) (by omega) (by omega) (by omega)) (fun _ => ⟨t1 73 (by decide) (by decide), t1 74 (by decide) (by decide), t2⟩) (no3 (by decide)), Or.inl ⟨u1, u2, u3, u4, (t1 75 (by decide) (by decide)).trans u5, ?_⟩⟩
      rw [g1.1, g1.2]; exact u6
    · have c := TT.le _ 3 _ _ _ _ _ _ _ _ _ _ _ _ _ _ (by decide) u4
      have c9 := c.2.2.2 (by decide)
      have g1 := s.2.2.2.2.2.2.2.2.2 j jm (Nat.le_refl _) (by omega)
      refine ⟨jm, rm, pm, y, ih 0 _ _ _ _ _ _ _ _ _ _ _ _ _ _ (by decide) h1 (s.sub (by omega) (by omega) (by omega) (by omega)) (fun _ => ⟨t1 73 (by decide) (by decide), t1 74 (by decide) (by decide), t2⟩) (no3 (by decide)), Or.inr ⟨T, f2, u1, (t1 75 (by decide) (by decide)).trans u2, ?_, ?_⟩⟩
      · rw [g1.1, g1.2]; exact u3
      · rw [g1.1, g1.2]
        exact ih 3 _ _ _ _ _ _ _ _ _ _ _ _ _ _ (by decide) u4 (s.sub (by omega) (by omega) (by omega) (by omega)) (no0 (by decide)) (fun _ => ⟨fun c z1 z2 => s.2.2.1 c rm z1 z2 (by omega) (by omega), s.2.1 _ (by omega) (by omega)⟩)
end
end
section
/-! which variables sums use: masks -/
/-- what nodes of sums use -/
def usX : List Nd → Int32
  | [] => 0
  | e :: t => (if e.1 = 1 then (1 : Int32) <<< (e.2.1.toInt32 &&& 31) else 0) ||| usX t
theorem usX_app : ∀ (s t : List Nd), usX (s ++ t) = usX s ||| usX t
  | [], t => by show usX t = 0 ||| usX t; rw [Int32.zero_or]
  | e :: s, t => by show _ ||| usX (s ++ t) = (_ ||| usX s) ||| usX t; rw [usX_app s t, Int32.or_assoc]
theorem usX_one {e : Nd} (h : e.1 ≠ 1) : usX [e] = 0 := by show (if e.1 = 1 then _ else (0 : Int32)) ||| (0 : Int32) = 0; rw [if_neg h, Int32.or_zero]
theorem opS_ne {k : Int32} : opS k ≠ 1 := by
  unfold opS
  repeat (first | split | decide)
/-- what a reading adds to a sum's nodes and to what is used -/
def UsR (X : List Nd) (u : Int32) (r : List Nd × Int32) : Prop := ∃ Y, r.1 = X ++ Y ∧ r.2 = u ||| usX Y
theorem UsR.rf {X : List Nd} {u : Int32} : UsR X u (X, u) := ⟨[], (List.append_nil X).symm, (Int32.or_zero).symm⟩
theorem UsR.tr {X : List Nd} {u : Int32} {r s : List Nd × Int32} (h : UsR X u r) (k : UsR r.1 r.2 s) : UsR X u s := by
  obtain ⟨Y, h1, h2⟩ := h
  obtain ⟨Z, k1, k2⟩ := k
  exact ⟨Y ++ Z, by rw [k1, h1, List.append_assoc], by rw [k2, h2, usX_app, Int32.or_assoc]⟩
theorem UsR.no {X : List Nd} {u : Int32} {e : Nd} (h : e.1 ≠ 1) : UsR X u (X ++ [e], u) := ⟨[e], rfl, by rw [usX_one h, Int32.or_zero]⟩
section
variable {b : Nat → Int32} {n : Nat} {sN : List Int64} {mx : List Int32} {vN : List Int64}
theorem rd_us (hv : vN.length < 1000) : ∀ (g md i o : Nat) (X : List Nd) (u : Int32) (r : Nat × List Nd × Int32), rd b n sN mx vN g md i o X u = .ok r → UsR X u r.2 := by
  intro g
  induction g with
  | zero => intro md i o X u r e; unfold rd at e; cases e
  | succ g ih =>
    intro md i o X u r e
    unfold rd at e
    by_cases m0 : md = 0
    · rw [if_pos m0] at e
      by_cases k3 : tK b n i = 3
      · rw [if_pos k3] at e
        obtain ⟨j, -, e⟩ := bind_ok e
        cases e
        exact UsR.no (by show (0 : Nat) ≠ 1; decide)
      rw [if_neg k3] at e
      by_cases k2 : tK b n i = 2
      · rw [if_pos k2] at e
        cases hf : fd vN (tC b n i) with
        | none => rw [hf] at e; cases e
        | some k =>
          rw [hf] at e
          obtain ⟨j, -, e⟩ := bind_ok e
          cases e
          have hk := (fd_some hf).1
          refine ⟨[(1, Int64.ofNat k, 0)], rfl, ?_⟩
          show u ||| _ = u ||| ((if (1 : Nat) = 1 then (1 : Int32) <<< ((Int64.ofNat k).toInt32 &&& 31) else 0) ||| 0)
          rw [if_pos rfl, Int32.or_zero, n64_32 (by omega)]
      rw [if_neg k2] at e
      by_cases k19 : tK b n i = 19
      · rw [if_pos k19] at e
        obtain ⟨j, -, e⟩ := bind_ok e
        by_cases kj : tK b n j = 2
        · rw [if_pos kj] at e
          cases hf : fd sN (tC b n j) with
          | none => rw [hf] at e; cases e
          | some k =>
            rw [hf] at e
            have e : (if mx.getD k 0 = 0 then Except.error (4, tP b n j) else (adv' b n j).bind fun j' => _) = .ok r := e
            by_cases km : mx.getD k 0 = 0
            · rw [if_pos km] at e; cases e
            rw [if_neg km] at e
            obtain ⟨j2, -, e⟩ := bind_ok e
            cases e
            exact UsR.no (by show (2 : Nat) ≠ 1; decide)
        · rw [if_neg kj] at e; cases e
      rw [if_neg k19] at e
      by_cases k21 : tK b n i = 21
      · rw [if_pos k21] at e
        by_cases ko : o = 15
        · rw [if_pos ko] at e; cases e
        rw [if_neg ko] at e
        obtain ⟨j, -, e⟩ := bind_ok e
        obtain ⟨q, e1, e⟩ := bind_ok e
        cases e
        exact (ih _ _ _ _ _ _ e1).tr (UsR.no (by show (3 : Nat) ≠ 1; decide))
      rw [if_neg k21] at e
      by_cases k15 : tK b n i = 15
      · rw [if_pos k15] at e
        by_cases ko : o = 15
        · rw [if_pos ko] at e; cases e
        rw [if_neg ko] at e
        obtain ⟨j, -, e⟩ := bind_ok e
        obtain ⟨q, e1, e⟩ := bind_ok e
        by_cases k16 : tK b n q.1 = 16
        · rw [if_pos k16] at e
          obtain ⟨j2, -, e⟩ := bind_ok e
          cases e
          have z := ih _ _ _ _ _ _ e1
          exact z
        · rw [if_neg k16] at e; cases e
      · rw [if_neg k15] at e; cases e
    rw [if_neg m0] at e
    by_cases m1 : md = 1
    · rw [if_pos m1] at e
      obtain ⟨q, e1, e⟩ := bind_ok e
      exact (ih _ _ _ _ _ _ e1).tr (ih _ _ _ _ _ _ e)
    rw [if_neg m1] at e
    by_cases m2 : md = 2
    · rw [if_pos m2] at e
      by_cases kk : tK b n i = 22 ∨ tK b n i = 23 ∨ tK b n i = 24
      · rw [if_pos kk] at e
        obtain ⟨j, -, e⟩ := bind_ok e
        obtain ⟨q, e1, e⟩ := bind_ok e
        exact ((ih _ _ _ _ _ _ e1).tr (UsR.no (e := (opS (tK b n i), Int64.ofNat (X.length - 1), q.2.1.length - 1)) opS_ne)).tr (ih _ _ _ _ _ _ e)
      · rw [if_neg kk] at e; cases e; exact UsR.rf
    rw [if_neg m2] at e
    by_cases m3 : md = 3
    · rw [if_pos m3] at e
      obtain ⟨q, e1, e⟩ := bind_ok e
      exact (ih _ _ _ _ _ _ e1).tr (ih _ _ _ _ _ _ e)
    rw [if_neg m3] at e
    by_cases kk : tK b n i = 20 ∨ tK b n i = 21
    · rw [if_pos kk] at e
      obtain ⟨j, -, e⟩ := bind_ok e
      obtain ⟨q, e1, e⟩ := bind_ok e
      exact ((ih _ _ _ _ _ _ e1).tr (UsR.no (e := (opS (tK b n i), Int64.ofNat (X.length - 1), q.2.1.length - 1)) opS_ne)).tr (ih _ _ _ _ _ _ e)
    · rw [if_neg kk] at e; cases e; exact UsR.rf
end
/-! a sum's nodes are a tree, its last node the root -/
def HvT (τ : Td) : Prop := τ.2.2.2.1.length ≤ 6 ∧ τ.1.length ≤ 16
def PxX (X : List Nd) : Nat → Nat → Nat → Prop
  | 0, _, _ => False
  | g + 1, f, c => c < X.length ∧ ((f = c ∧ (((X.getD c nd0).1 = 0 ∧ ∃ b n i, tK b n i = 3 ∧ (X.getD c nd0).2.1 = tC b n i) ∨ ((X.getD c nd0).1 = 1 ∧ ∃ k, k < 6 ∧ (X.getD c nd0).2.1 = Int64.ofNat k) ∨ ((X.getD c nd0).1 = 2 ∧ ∃ k, k < 16 ∧ (X.getD c nd0).2.1 = Int64.ofNat k)))
    ∨ ((X.getD c nd0).1 = 3 ∧ f < c ∧ (X.getD c nd0).2.1 = Int64.ofNat (c - 1) ∧ PxX X g f (c - 1))
    ∨ ((4 ≤ (X.getD c nd0).1 ∧ (X.getD c nd0).1 ≤ 8) ∧ ∃ e, e + 1 < c ∧ (X.getD c nd0).2.1 = Int64.ofNat e ∧ (X.getD c nd0).2.2 = c - 1 ∧ PxX X g f e ∧ PxX X g (e + 1) (c - 1)))
def PxE (X : List Nd) (f c : Nat) : Prop := ∃ g, PxX X g f c
def NeY (X Y : List Nd) : Prop := 0 < Y.length ∧ PxE (X ++ Y) X.length (X.length + Y.length - 1)
section
variable {X Y : List Nd} {f c : Nat}
theorem gd_app {c : Nat} (h : c < X.length) : (X ++ Y).getD c nd0 = X.getD c nd0 := by
  rw [List.getD_eq_getElem?_getD, List.getD_eq_getElem?_getD, List.getElem?_append_left h]
theorem PxX.st : ∀ (g g' f c : Nat), g ≤ g' → PxX X g f c → PxX (X ++ Y) g' f c := by
  intro g
  induction g with
  | zero => intro g' f c _ h; exact h.elim
  | succ g ih =>
    intro g' f c hg h
    cases g' with
    | zero => omega
    | succ g' =>
      have hg : g ≤ g' := by omega
      obtain ⟨h1, h⟩ := h
      refine ⟨by rw [List.length_append]; omega, ?_⟩
      rw [gd_app h1]
      rcases h with h | ⟨a1, a2, a3, a4⟩ | ⟨a1, e, a2, a3, a4, a5, a6⟩
      · exact Or.inl h
      · exact Or.inr (Or.inl ⟨a1, a2, a3, ih g' _ _ hg a4⟩)
      · exact Or.inr (Or.inr ⟨a1, e, a2, a3, a4, ih g' _ _ hg a5, ih g' _ _ hg a6⟩)
theorem PxE.app (h : PxE X f c) : PxE (X ++ Y) f c := by
  obtain ⟨g, h⟩ := h
  exact ⟨g, PxX.st g g f c (Nat.le_refl _) h⟩
theorem gd_last {d : Nd} : (X ++ [d]).getD X.length nd0 = d := by
  rw [List.getD_eq_getElem?_getD, List.getElem?_append_right (Nat.le_refl _), Nat.sub_self]
  rfl
theorem PxE.lf {d : Nd} (hd : (d.1 = 0 ∧ ∃ b n i, tK b n i = 3 ∧ d.2.1 = tC b n i) ∨ (d.1 = 1 ∧ ∃ k, k < 6 ∧ d.2.1 = Int64.ofNat k) ∨ (d.1 = 2 ∧ ∃ k, k < 16 ∧ d.2.1 = Int64.ofNat k)) : PxE (X ++ [d]) X.length X.length := by
  refine ⟨1, by rw [List.length_append]; exact Nat.lt_succ_self _, Or.inl ⟨rfl, ?_⟩⟩
  rw [gd_last]
  exact hd
theorem PxE.un {v : Int64} {w : Nat} (h : PxE X f (X.length - 1)) (hf : f < X.length) (e : v = Int64.ofNat (X.length - 1)) : PxE (X ++ [(3, v, w)]) f X.length := by
  obtain ⟨g, h⟩ := h
  refine ⟨g + 1, by rw [List.length_append]; exact Nat.lt_succ_self _, Or.inr (Or.inl ?_)⟩
  rw [gd_last]
  exact ⟨rfl, hf, e, PxX.st g g _ _ (Nat.le_refl _) h⟩
theorem PxE.bi {o : Nat} (h1 : PxE X f (X.length - 1)) (h2 : PxE (X ++ Y) X.length ((X ++ Y).length - 1)) (hX : 0 < X.length) (hY : 0 < Y.length) (ho : 4 ≤ o ∧ o ≤ 8) : PxE (X ++ Y ++ [(o, Int64.ofNat (X.length - 1), (X ++ Y).length - 1)]) f (X ++ Y).length := by
  obtain ⟨g1, h1⟩ := h1
  obtain ⟨g2, h2⟩ := h2
  have hl : (X ++ Y).length = X.length + Y.length := List.length_append
  refine ⟨max g1 g2 + 1, by rw [List.length_append (as := X ++ Y)]; exact Nat.lt_succ_self _, Or.inr (Or.inr ?_)⟩
  rw [gd_last]
  refine ⟨ho, X.length - 1, by omega, rfl, rfl, ?_, ?_⟩
  · rw [List.append_assoc]
    exact PxX.st g1 _ _ _ (by omega) h1
  · have e : X.length - 1 + 1 = X.length := by omega
    rw [e]
    exact PxX.st g2 _ _ _ (by omega) h2
end
section
variable {b : Nat → Int32} {n : Nat} {sN : List Int64} {mx : List Int32} {vN : List Int64}
theorem opS_in {k : Int32} : 4 ≤ opS k ∧ opS k ≤ 8 := by
  unfold opS
  repeat (first | split | decide)
theorem rd_px (hv : vN.length ≤ 6) (hs : sN.length ≤ 16) : ∀ (g md i o : Nat) (X : List Nd) (u : Int32) (r : Nat × List Nd × Int32), rd b n sN mx vN g md i o X u = .ok r → (md = 0 ∨ md = 1 ∨ md = 3 → X.length < r.2.1.length ∧ PxE r.2.1 X.length (r.2.1.length - 1)) ∧ (md = 2 ∨ 4 ≤ md → ∀ f, 0 < X.length → PxE X f (X.length - 1) → PxE r.2.1 f (r.2.1.length - 1)) := by
  intro g
  induction g with
  | zero => intro md i o X u r e; unfold rd at e; cases e
  | succ g ih =>
    intro md i o X u r e
    have lf : ∀ d : Nd, ((d.1 = 0 ∧ ∃ b n i, tK b n i = 3 ∧ d.2.1 = tC b n i) ∨ (d.1 = 1 ∧ ∃ k, k < 6 ∧ d.2.1 = Int64.ofNat k) ∨ (d.1 = 2 ∧ ∃ k, k < 16 ∧ d.2.1 = Int64.ofNat k)) → X.length < (X ++ [d]).length ∧ PxE (X ++ [d]) X.length ((X ++ [d]).length - 1) := fun d hd => by
      have e : (X ++ [d]).length - 1 = X.length := by rw [List.length_append]; rfl
      rw [e]
      exact ⟨by rw [List.length_append]; exact Nat.lt_succ_self _, PxE.lf hd⟩
    unfold rd at e
    by_cases m0 : md = 0
    · rw [if_pos m0] at e
      refine ⟨fun _ => ?_, fun z => absurd m0 (by omega)⟩
      by_cases k3 : tK b n i = 3
      · rw [if_pos k3] at e
        obtain ⟨j, -, e⟩ := bind_ok e
        cases e
        exact lf _ (Or.inl ⟨rfl, b, n, i, k3, rfl⟩)
      rw [if_neg k3] at e
      by_cases k2 : tK b n i = 2
      · rw [if_pos k2] at e
        cases hf : fd vN (tC b n i) with
        | none => rw [hf] at e; cases e
        | some k =>
          rw [hf] at e
          obtain ⟨j, -, e⟩ := bind_ok e
          cases e
          exact lf _ (Or.inr (Or.inl ⟨rfl, k, Nat.lt_of_lt_of_le (fd_some hf).1 hv, rfl⟩))
      rw [if_neg k2] at e
      by_cases k19 : tK b n i = 19
      · rw [if_pos k19] at e
        obtain ⟨j, -, e⟩ := bind_ok e
        by_cases kj : tK b n j = 2
        · rw [if_pos kj] at e
          cases hf : fd sN (tC b n j) with
          | none => rw [hf] at e; cases e
          | some k =>
            rw [hf] at e
            have e : (if mx.getD k 0 = 0 then Except.error (4, tP b n j) else (adv' b n j).bind fun j' => _) = .ok r := e
            by_cases km : mx.getD k 0 = 0
            · rw [if_pos km] at e; cases e
            rw [if_neg km] at e
            obtain ⟨j2, -, e⟩ := bind_ok e
            cases e
            exact lf _ (Or.inr (Or.inr ⟨rfl, k, Nat.lt_of_lt_of_le (fd_some hf).1 hs, rfl⟩))
        · rw [if_neg kj] at e; cases e
      rw [if_neg k19] at e
      by_cases k21 : tK b n i = 21
      · rw [if_pos k21] at e
        by_cases ko : o = 15
        · rw [if_pos ko] at e; cases e
        rw [if_neg ko] at e
        obtain ⟨j, -, e⟩ := bind_ok e
        obtain ⟨q, e1, e⟩ := bind_ok e
        cases e
        obtain ⟨a1, a2⟩ := (ih _ _ _ _ _ _ e1).1 (Or.inl rfl)
        show X.length < (q.2.1 ++ [_]).length ∧ PxE (q.2.1 ++ [_]) X.length ((q.2.1 ++ [_]).length - 1)
        rw [List.length_append]
        exact ⟨by show _ < q.2.1.length + 1; omega, PxE.un a2 a1 rfl⟩
      rw [if_neg k21] at e
      by_cases k15 : tK b n i = 15
      · rw [if_pos k15] at e
        by_cases ko : o = 15
        · rw [if_pos ko] at e; cases e
        rw [if_neg ko] at e
        obtain ⟨j, -, e⟩ := bind_ok e
        obtain ⟨q, e1, e⟩ := bind_ok e
        by_cases k16 : tK b n q.1 = 16
        · rw [if_pos k16] at e
          obtain ⟨j2, -, e⟩ := bind_ok e
          cases e
          exact (ih _ _ _ _ _ _ e1).1 (Or.inr (Or.inr rfl))
        · rw [if_neg k16] at e; cases e
      · rw [if_neg k15] at e; cases e
    rw [if_neg m0] at e
    have two : ∀ (md1 i1 o1 : Nat) (X1 : List Nd) (u1 : Int32) (r1 : Nat × List Nd × Int32), rd b n sN mx vN g md1 i1 o1 X1 u1 = .ok r1 → ∃ Y, r1.2.1 = X1 ++ Y := fun md1 i1 o1 X1 u1 r1 e1 => by
      obtain ⟨Y, h1, -⟩ := rd_us (by omega) _ _ _ _ _ _ _ e1
      exact ⟨Y, h1⟩
    have op : ∀ (md1 mdr j : Nat) (q r : Nat × List Nd × Int32) (k : Int32) (f : Nat), (md1 = 0 ∨ md1 = 1) → (mdr = 2 ∨ mdr = 4) → rd b n sN mx vN g md1 j o X u = .ok q → rd b n sN mx vN g mdr q.1 o (q.2.1 ++ [(opS k, Int64.ofNat (X.length - 1), q.2.1.length - 1)]) q.2.2 = .ok r → 0 < X.length → PxE X f (X.length - 1) → PxE r.2.1 f (r.2.1.length - 1) := fun md1 mdr j q r k f h1 h2 e1 e2 hX hp => by
      obtain ⟨a1, a2⟩ := (ih _ _ _ _ _ _ e1).1 (by omega)
      obtain ⟨Y, hY⟩ := two _ _ _ _ _ _ e1
      rw [hY] at a1 a2 e2
      rw [List.length_append] at a1
      have hb := PxE.bi hp a2 hX (by omega) (opS_in (k := k))
      refine (ih _ _ _ _ _ _ e2).2 (by omega) f (by rw [List.length_append]; exact Nat.succ_pos _) ?_
      have el : (X ++ Y ++ [(opS k, Int64.ofNat (X.length - 1), (X ++ Y).length - 1)]).length - 1 = (X ++ Y).length := by rw [List.length_append (as := X ++ Y)]; rfl
      rw [el]
      exact hb
    by_cases m1 : md = 1
    · rw [if_pos m1] at e
      obtain ⟨q, e1, e⟩ := bind_ok e
      refine ⟨fun _ => ?_, fun z => absurd m1 (by omega)⟩
      obtain ⟨a1, a2⟩ := (ih _ _ _ _ _ _ e1).1 (Or.inl rfl)
      obtain ⟨Y, hY⟩ := two _ _ _ _ _ _ e
      exact ⟨by rw [hY, List.length_append]; omega, (ih _ _ _ _ _ _ e).2 (Or.inl rfl) _ (by omega) a2⟩
    rw [if_neg m1] at e
    by_cases m2 : md = 2
    · rw [if_pos m2] at e
      refine ⟨fun z => absurd m2 (by omega), fun _ f hX hp => ?_⟩
      by_cases kk : tK b n i = 22 ∨ tK b n i = 23 ∨ tK b n i = 24
      · rw [if_pos kk] at e
        obtain ⟨j, -, e⟩ := bind_ok e
        obtain ⟨q, e1, e⟩ := bind_ok e
        exact op 0 2 j q r _ f (Or.inl rfl) (Or.inl rfl) e1 e hX hp
      · rw [if_neg kk] at e; cases e; exact hp
    rw [if_neg m2] at e
    by_cases m3 : md = 3
    · rw [if_pos m3] at e
      obtain ⟨q, e1, e⟩ := bind_ok e
      refine ⟨fun _ => ?_, fun z => absurd m3 (by omega)⟩
      obtain ⟨a1, a2⟩ := (ih _ _ _ _ _ _ e1).1 (Or.inr (Or.inl rfl))
      obtain ⟨Y, hY⟩ := two _ _ _ _ _ _ e
      exact ⟨by rw [hY, List.length_append]; omega, (ih _ _ _ _ _ _ e).2 (Or.inr (Nat.le_refl _)) _ (by omega) a2⟩
    rw [if_neg m3] at e
    refine ⟨fun z => by omega, fun _ f hX hp => ?_⟩
    by_cases kk : tK b n i = 20 ∨ tK b n i = 21
    · rw [if_pos kk] at e
      obtain ⟨j, -, e⟩ := bind_ok e
      obtain ⟨q, e1, e⟩ := bind_ok e
      exact op 1 4 j q r _ f (Or.inr rfl) (Or.inr rfl) e1 e hX hp
    · rw [if_neg kk] at e; cases e; exact hp
end
end
section
/-! which variables parts give and use: masks from part to part -/
def orN (f : Nat → Int32) (x : Nat) : Nat → Int32
  | 0 => 0
  | d + 1 => orN f x d ||| f (x + d)
theorem orN_add (f : Nat → Int32) (x d : Nat) : ∀ e, orN f x (d + e) = orN f x d ||| orN f (x + d) e
  | 0 => by show orN f x d = orN f x d ||| 0; rw [Int32.or_zero]
  | e + 1 => by show orN f x (d + e) ||| f (x + (d + e)) = orN f x d ||| (orN f (x + d) e ||| f (x + d + e)); rw [orN_add f x d e, Int32.or_assoc, Nat.add_assoc]
theorem orN_cg {f g : Nat → Int32} {x : Nat} : ∀ {d : Nat}, (∀ y, x ≤ y → y < x + d → f y = g y) → orN f x d = orN g x d
  | 0, _ => rfl
  | d + 1, h => by show orN f x d ||| f (x + d) = orN g x d ||| g (x + d); rw [orN_cg (d := d) (fun y h1 h2 => h y h1 (by omega)), h (x + d) (by omega) (by omega)]
/-- from part x to part y -/
def orF (f : Nat → Int32) (x y : Nat) : Int32 := orN f x (y - x)
theorem orF_tr {f : Nat → Int32} {x y z : Nat} (h1 : x ≤ y) (h2 : y ≤ z) : orF f x z = orF f x y ||| orF f y z := by
  unfold orF
  have e : z - x = (y - x) + (z - y) := by omega
  have e2 : x + (y - x) = y := by omega
  rw [e, orN_add, e2]
theorem orF_one {f : Nat → Int32} {x : Nat} : orF f x (x + 1) = f x := by
  unfold orF
  have e : x + 1 - x = 0 + 1 := by omega
  rw [e]
  show (0 : Int32) ||| f (x + 0) = f x
  rw [Int32.zero_or]; rfl
theorem orF_rf {f : Nat → Int32} {x : Nat} : orF f x x = 0 := by unfold orF; rw [Nat.sub_self]; rfl
theorem orF_cg {f g : Nat → Int32} {x y : Nat} (h : ∀ z, x ≤ z → z < y → f z = g z) : orF f x y = orF g x y := orN_cg (fun z h1 h2 => h z h1 (by omega))
/-- part k gives, uses -/
def gvK (A : Nat → Nat → Int32) (m k : Nat) : Int32 := if A 58 (40 * m + k) = 15 then (1 : Int32) <<< (A 60 (40 * m + k) &&& 31) else 0
def usI (A : Nat → Nat → Int32) (X : List Nd) (m c1 c2 k : Nat) : Int32 := if A c2 (40 * m + k) = -1 then 0 else usX ((X.drop ((A c1 (40 * m + k)).toNatClampNeg - 810 * m)).take ((A c2 (40 * m + k)).toNatClampNeg + 1 - (A c1 (40 * m + k)).toNatClampNeg))
def uvK (A : Nat → Nat → Int32) (X : List Nd) (m k : Nat) : Int32 := usI A X m 64 65 k ||| usI A X m 66 67 k
/-- a sum of part k lies in X -/
def SuI (A : Nat → Nat → Int32) (X : List Nd) (m c1 c2 k : Nat) : Prop := A c2 (40 * m + k) = -1 ∨ ∃ f c, f ≤ c ∧ c < X.length ∧ A c1 (40 * m + k) = Int32.ofNat (810 * m + f) ∧ A c2 (40 * m + k) = Int32.ofNat (810 * m + c) ∧ PxE X f c
section
variable {A A' : Nat → Nat → Int32} {X Y : List Nd} {m c1 c2 k : Nat}
theorem usI_st (h4 : m < 4) (hX : X.length < 900) (h : SuI A X m c1 c2 k) (e1 : A' c1 (40 * m + k) = A c1 (40 * m + k)) (e2 : A' c2 (40 * m + k) = A c2 (40 * m + k)) : usI A' (X ++ Y) m c1 c2 k = usI A X m c1 c2 k ∧ SuI A' (X ++ Y) m c1 c2 k := by
  unfold usI SuI
  rw [e1, e2]
  rcases h with h | ⟨f, c, a1, a2, a3, a4, a5⟩
  · rw [if_pos h, if_pos h]; exact ⟨rfl, Or.inl h⟩
  · refine ⟨?_, Or.inr ⟨f, c, a1, by rw [List.length_append]; omega, a3, a4, a5.app⟩⟩
    rw [a3, a4, if_neg (nm32 (by omega)), if_neg (nm32 (by omega)), lt32 (by omega), lt32 (by omega)]
    have e3 : 810 * m + f - 810 * m = f := by omega
    have e4 : 810 * m + c + 1 - (810 * m + f) = c + 1 - f := by omega
    rw [e3, e4, List.drop_append_of_le_length (by omega), List.take_append_of_le_length (by rw [List.length_drop]; omega)]
end
section
variable {b : Nat → Int32} {n m : Nat} {τ : Td} {j i o f1 f2 fo : Nat} {σ : PS}
theorem rd_ne {sN : List Int64} {mx : List Int32} {vN : List Int64} (hv : vN.length < 1000) : ∀ (g md i o : Nat) (X : List Nd) (u : Int32) (r : Nat × List Nd × Int32), md = 0 ∨ md = 1 ∨ md = 3 → rd b n sN mx vN g md i o X u = .ok r → X.length < r.2.1.length := by
  have mono : ∀ (g md i o : Nat) (X : List Nd) (u : Int32) (r : Nat × List Nd × Int32), rd b n sN mx vN g md i o X u = .ok r → X.length ≤ r.2.1.length := fun g md i o X u r e => by
    obtain ⟨Y, h1, -⟩ := rd_us hv g md i o X u r e
    rw [h1, List.length_append]; omega
  intro g
  induction g with
  | zero => intro md i o X u r _ e; unfold rd at e; cases e
  | succ g ih =>
    intro md i o X u r hm e
    unfold rd at e
    by_cases m0 : md = 0
    · rw [if_pos m0] at e
      by_cases k3 : tK b n i = 3
      · rw [if_pos k3] at e
        obtain ⟨j, -, e⟩ := bind_ok e
        cases e
        show X.length < (X ++ _).length
        rw [List.length_append]; exact Nat.lt_succ_self _
      rw [if_neg k3] at e
      by_cases k2 : tK b n i = 2
      · rw [if_pos k2] at e
        cases hf : fd vN (tC b n i) with
        | none => rw [hf] at e; cases e
        | some k =>
          rw [hf] at e
          obtain ⟨j, -, e⟩ := bind_ok e
          cases e
          show X.length < (X ++ _).length
          rw [List.length_append]; exact Nat.lt_succ_self _
      rw [if_neg k2] at e
      by_cases k19 : tK b n i = 19
      · rw [if_pos k19] at e
        obtain ⟨j, -, e⟩ := bind_ok e
        by_cases kj : tK b n j = 2
        · rw [if_pos kj] at e
          cases hf : fd sN (tC b n j) with
          | none => rw [hf] at e; cases e
          | some k =>
            rw [hf] at e
            have e : (if mx.getD k 0 = 0 then Except.error (4, tP b n j) else (adv' b n j).bind fun j' => _) = .ok r := e
            by_cases km : mx.getD k 0 = 0
            · rw [if_pos km] at e; cases e
            rw [if_neg km] at e
            obtain ⟨j2, -, e⟩ := bind_ok e
            cases e
            show X.length < (X ++ _).length
            rw [List.length_append]; exact Nat.lt_succ_self _
        · rw [if_neg kj] at e; cases e
      rw [if_neg k19] at e
      by_cases k21 : tK b n i = 21
      · rw [if_pos k21] at e
        by_cases ko : o = 15
        · rw [if_pos ko] at e; cases e
        rw [if_neg ko] at e
        obtain ⟨j, -, e⟩ := bind_ok e
        obtain ⟨q, e1, e⟩ := bind_ok e
        have := mono _ _ _ _ _ _ _ e1
        cases e
        show X.length < (q.2.1 ++ _).length
        rw [List.length_append]; exact Nat.lt_succ_of_le this
      rw [if_neg k21] at e
      by_cases k15 : tK b n i = 15
      · rw [if_pos k15] at e
        by_cases ko : o = 15
        · rw [if_pos ko] at e; cases e
        rw [if_neg ko] at e
        obtain ⟨j, -, e⟩ := bind_ok e
        obtain ⟨q, e1, e⟩ := bind_ok e
        have := ih _ _ _ _ _ _ (by decide) e1
        by_cases k16 : tK b n q.1 = 16
        · rw [if_pos k16] at e
          obtain ⟨j2, -, e⟩ := bind_ok e
          cases e
          exact this
        · rw [if_neg k16] at e; cases e
      · rw [if_neg k15] at e; cases e
    rw [if_neg m0] at e
    by_cases m1 : md = 1
    · rw [if_pos m1] at e
      obtain ⟨q, e1, e⟩ := bind_ok e
      exact Nat.lt_of_lt_of_le (ih _ _ _ _ _ _ (by decide) e1) (mono _ _ _ _ _ _ _ e)
    rw [if_neg m1] at e
    have m3 : md = 3 := by omega
    rw [if_neg (by omega), if_pos m3] at e
    obtain ⟨q, e1, e⟩ := bind_ok e
    exact Nat.lt_of_lt_of_le (ih _ _ _ _ _ _ (by decide) e1) (mono _ _ _ _ _ _ _ e)
theorem su_u (hv : HvT τ) {r : Nat × PS} (e : suM b n m τ j f1 f2 fo i o σ = .ok r) : giS r.2 = giS σ ∧ ∃ Y, NeY σ.2.2.1 Y ∧ r.2.2.2.1 = σ.2.2.1 ++ Y ∧ usS r.2 = usS σ ||| usX Y ∧ r.2.1.2.1 = up2 (up2 σ.1.2.1 f1 (40 * m + j) (Int32.ofNat (810 * m + σ.2.2.1.length))) f2 (40 * m + j) (Int32.ofNat (810 * m + (σ.2.2.1.length + Y.length - 1))) := by
  unfold suM at e
  obtain ⟨x, e1, e⟩ := bind_ok e
  obtain ⟨Y, h1, h2⟩ := rd_us (by have := hv.1; omega) _ _ _ _ _ _ _ e1
  have h3 := ((rd_px hv.1 hv.2 _ _ _ _ _ _ _ e1).1 (by decide))
  rw [h1, List.length_append] at h3
  cases e
  refine ⟨rfl, Y, ⟨by have := h3.1; omega, h3.2⟩, h1, h2, ?_⟩
  show up2 (up2 σ.1.2.1 f1 (40 * m + j) _) f2 (40 * m + j) (Int32.ofNat (810 * m + (x.2.1.length - 1))) = _
  rw [h1, List.length_append]
end
end
section
/-! what parts give and use: one part, from part to part -/
/-- part j, read from σ to σ': what it gives and uses has come to what is given and used -/
def GU (m j : Nat) (σ σ' : PS) : Prop := giS σ' = giS σ ||| gvK σ'.1.2.1 m j ∧ usS σ' = usS σ ||| uvK σ'.1.2.1 σ'.2.2.1 m j ∧ SuI σ'.1.2.1 σ'.2.2.1 m 64 65 j ∧ SuI σ'.1.2.1 σ'.2.2.1 m 66 67 j
/-- parts j to j': on top of g and u -/
def GR (m j j' : Nat) (σ : PS) (g u : Int32) : Prop := giS σ = g ||| orF (gvK σ.1.2.1 m) j j' ∧ usS σ = u ||| orF (uvK σ.1.2.1 σ.2.2.1 m) j j' ∧ ∀ k, j ≤ k → k < j' → SuI σ.1.2.1 σ.2.2.1 m 64 65 k ∧ SuI σ.1.2.1 σ.2.2.1 m 66 67 k
/-- parts j to j' stay as they are, sums only come -/
def GK (m j j' : Nat) (σ σ' : PS) : Prop := (∀ c k, 58 ≤ c → c ≤ 68 → ¬ (61 ≤ c ∧ c ≤ 63) → j ≤ k → k < j' → σ'.1.2.1 c (40 * m + k) = σ.1.2.1 c (40 * m + k)) ∧ ∃ Y, σ'.2.2.1 = σ.2.2.1 ++ Y
section
variable {m j j1 j' k : Nat} {σ σ1 σ2 : PS} {g u : Int32}
theorem gu_st (h4 : m < 4) (hX : σ.2.2.1.length < 900) (h : GK m j j' σ σ1) (hk : j ≤ k ∧ k < j') (s1 : SuI σ.1.2.1 σ.2.2.1 m 64 65 k) (s2 : SuI σ.1.2.1 σ.2.2.1 m 66 67 k) : gvK σ1.1.2.1 m k = gvK σ.1.2.1 m k ∧ uvK σ1.1.2.1 σ1.2.2.1 m k = uvK σ.1.2.1 σ.2.2.1 m k ∧ SuI σ1.1.2.1 σ1.2.2.1 m 64 65 k ∧ SuI σ1.1.2.1 σ1.2.2.1 m 66 67 k := by
  obtain ⟨h1, Y, h2⟩ := h
  have e := fun c z1 z2 z3 => h1 c k z1 z2 z3 hk.1 hk.2
  have q1 := usI_st (A' := σ1.1.2.1) (Y := Y) h4 hX s1 (e 64 (by decide) (by decide) (by decide)) (e 65 (by decide) (by decide) (by decide))
  have q2 := usI_st (A' := σ1.1.2.1) (Y := Y) h4 hX s2 (e 66 (by decide) (by decide) (by decide)) (e 67 (by decide) (by decide) (by decide))
  rw [← h2] at q1 q2
  refine ⟨?_, ?_, q1.2, q2.2⟩
  · unfold gvK; rw [e 58 (by decide) (by decide) (by decide), e 60 (by decide) (by decide) (by decide)]
  · unfold uvK; rw [q1.1, q2.1]
theorem GR.rf : GR m j j σ (giS σ) (usS σ) := ⟨by rw [orF_rf, Int32.or_zero], by rw [orF_rf, Int32.or_zero], fun k h1 h2 => by omega⟩
theorem GR.one (h : GU m j σ σ1) : GR m j (j + 1) σ1 (giS σ) (usS σ) := ⟨by rw [orF_one]; exact h.1, by rw [orF_one]; exact h.2.1, fun k h1 h2 => by
  have : k = j := by omega
  rw [this]; exact h.2.2⟩
/-- one after the other -/
theorem GR.tr (h4 : m < 4) (hX : σ.2.2.1.length < 900) (h : GR m j j1 σ g u) (kp : GK m j j1 σ σ1) (l : GR m j1 j' σ1 (giS σ) (usS σ)) (h1 : j ≤ j1) (h2 : j1 ≤ j') : GR m j j' σ1 g u := by
  obtain ⟨a1, a2, a3⟩ := h
  obtain ⟨b1, b2, b3⟩ := l
  have st := fun k z1 z2 => gu_st h4 hX kp ⟨z1, z2⟩ (a3 k z1 z2).1 (a3 k z1 z2).2
  refine ⟨?_, ?_, fun k z1 z2 => ?_⟩
  · rw [b1, a1, orF_tr h1 h2, Int32.or_assoc, orF_cg (f := gvK σ1.1.2.1 m) (g := gvK σ.1.2.1 m) (fun z z1 z2 => (st z z1 z2).1)]
  · rw [b2, a2, orF_tr h1 h2, Int32.or_assoc, orF_cg (f := uvK σ1.1.2.1 σ1.2.2.1 m) (g := uvK σ.1.2.1 σ.2.2.1 m) (fun z z1 z2 => (st z z1 z2).2.1)]
  · by_cases z : k < j1
    · exact (st k z1 z).2.2
    · exact b3 k (by omega) z2
/-- the same, other base -/
theorem GR.ba {σ' : PS} (h : GR m j j' σ g u) (e1 : giS σ' = giS σ) (e2 : usS σ' = usS σ) (e3 : σ'.1.2.1 = σ.1.2.1) (e4 : σ'.2.2.1 = σ.2.2.1) : GR m j j' σ' g u := by
  obtain ⟨a1, a2, a3⟩ := h
  exact ⟨by rw [e1, e3]; exact a1, by rw [e2, e3, e4]; exact a2, by rw [e3, e4]; exact a3⟩
theorem GK.rf : GK m j j' σ σ := ⟨fun _ _ _ _ _ _ _ => rfl, [], (List.append_nil _).symm⟩
theorem GK.tr (h : GK m j j' σ σ1) (k : GK m j j' σ1 σ2) : GK m j j' σ σ2 := by
  obtain ⟨h1, Y, h2⟩ := h
  obtain ⟨k1, Z, k2⟩ := k
  exact ⟨fun c x z1 z2 z3 z4 z5 => (k1 c x z1 z2 z3 z4 z5).trans (h1 c x z1 z2 z3 z4 z5), Y ++ Z, by rw [k2, h2, List.append_assoc]⟩
theorem GK.less {a b' : Nat} (h : GK m j j' σ σ1) (h1 : j ≤ a) (h2 : b' ≤ j') : GK m a b' σ σ1 := ⟨fun c x z1 z2 z3 z4 z5 => h.1 c x z1 z2 z3 (by omega) (by omega), h.2⟩
theorem GK.len (h : GK m j j' σ σ1) : σ.2.2.1.length ≤ σ1.2.2.1.length := by
  obtain ⟨-, Y, h2⟩ := h
  rw [h2, List.length_append]; omega
/-- a part without sums that gives nothing -/
theorem GU.no (h58 : σ1.1.2.1 58 (40 * m + j) ≠ 15) (h65 : σ1.1.2.1 65 (40 * m + j) = -1) (h67 : σ1.1.2.1 67 (40 * m + j) = -1) (e1 : giS σ1 = giS σ) (e2 : usS σ1 = usS σ) : GU m j σ σ1 := by
  refine ⟨?_, ?_, Or.inl h65, Or.inl h67⟩
  · unfold gvK; rw [if_neg h58, Int32.or_zero]; exact e1
  · unfold uvK usI; rw [if_pos h65, if_pos h67, Int32.or_zero, Int32.or_zero]; exact e2
/-- a sum that was just read is what lies between its ends -/
theorem usI_new {A : Nat → Nat → Int32} {X Y Z : List Nd} {c1 c2 : Nat} (h4 : m < 4) (hX : X.length + Y.length < 900) (hY : NeY X Y) (e1 : A c1 (40 * m + j) = Int32.ofNat (810 * m + X.length)) (e2 : A c2 (40 * m + j) = Int32.ofNat (810 * m + (X.length + Y.length - 1))) : usI A (X ++ Y ++ Z) m c1 c2 j = usX Y ∧ SuI A (X ++ Y ++ Z) m c1 c2 j := by
  unfold usI
  have hY1 := hY.1
  refine ⟨?_, Or.inr ⟨X.length, X.length + Y.length - 1, by omega, by rw [List.length_append, List.length_append]; omega, e1, e2, hY.2.app⟩⟩
  rw [e1, e2, if_neg (nm32 (by omega)), lt32 (by omega), lt32 (by omega)]
  have e3 : 810 * m + X.length - 810 * m = X.length := by omega
  have e4 : 810 * m + (X.length + Y.length - 1) + 1 - (810 * m + X.length) = Y.length := by omega
  rw [e3, e4, List.append_assoc, List.drop_left, List.take_left]
/-- what changes neither masks nor these cells nor sums -/
theorem GR.tl (h4 : m < 4) (hX : σ.2.2.1.length < 900) (h : GR m j j' σ g u) (kp : GK m j j' σ σ1) (e1 : giS σ1 = giS σ) (e2 : usS σ1 = usS σ) (hj : j ≤ j') : GR m j j' σ1 g u := by
  have r := GR.rf (m := m) (j := j') (σ := σ1)
  rw [e1, e2] at r
  exact h.tr h4 hX kp r hj (Nat.le_refl _)
end
end
section
/-! what parts give and use: heads, leaves, tails -/
theorem so15 {k : Int32} (h : Int32.ofNat (soK k) = 15) : k = 2 := by
  unfold soK at h
  by_cases k0 : k = 37
  · rw [if_pos k0] at h; exact absurd h (by decide)
  rw [if_neg k0] at h
  by_cases k1 : k = 38
  · rw [if_pos k1] at h; exact absurd h (by decide)
  rw [if_neg k1] at h
  by_cases k2 : k = 39
  · rw [if_pos k2] at h; exact absurd h (by decide)
  rw [if_neg k2] at h
  by_cases k3 : k = 40
  · rw [if_pos k3] at h; exact absurd h (by decide)
  rw [if_neg k3] at h
  by_cases k4 : k = 41
  · rw [if_pos k4] at h; exact absurd h (by decide)
  rw [if_neg k4] at h
  by_cases k5 : k = 42
  · rw [if_pos k5] at h; exact absurd h (by decide)
  rw [if_neg k5] at h
  by_cases k6 : k = 44
  · rw [if_pos k6] at h; exact absurd h (by decide)
  rw [if_neg k6] at h
  by_cases k7 : k = 47
  · rw [if_pos k7] at h; exact absurd h (by decide)
  rw [if_neg k7] at h
  by_cases k8 : k = 49
  · rw [if_pos k8] at h; exact absurd h (by decide)
  rw [if_neg k8] at h
  by_cases k9 : k = 50
  · rw [if_pos k9] at h; exact absurd h (by decide)
  rw [if_neg k9] at h
  by_cases k10 : k = 52
  · rw [if_pos k10] at h; exact absurd h (by decide)
  rw [if_neg k10] at h
  by_cases k11 : k = 53
  · rw [if_pos k11] at h; exact absurd h (by decide)
  rw [if_neg k11] at h
  by_cases k12 : k = 55
  · rw [if_pos k12] at h; exact absurd h (by decide)
  rw [if_neg k12] at h
  by_cases k13 : k = 57
  · rw [if_pos k13] at h; exact absurd h (by decide)
  rw [if_neg k13] at h
  by_cases k14 : k = 58
  · rw [if_pos k14] at h; exact absurd h (by decide)
  rw [if_neg k14] at h
  by_cases q1 : k = 2
  · exact q1
  rw [if_neg q1] at h
  by_cases q2 : k = 17
  · rw [if_pos q2] at h; exact absurd h (by decide)
  rw [if_neg q2] at h
  exact absurd h (by decide)
/-- no sum was read: masks and sums as they were, the arrays but for a few cells -/
def Nx (σ σ' : PS) : Prop := giS σ' = giS σ ∧ usS σ' = usS σ ∧ σ'.2.2.1 = σ.2.2.1 ∧ ∀ c x, c ≠ 60 → c ≠ 61 → c ≠ 62 → c ≠ 63 → σ'.1.2.1 c x = σ.1.2.1 c x
section
variable {b : Nat → Int32} {n m : Nat} {τ : Td} {j i o f1 f2 fo x aw lit y : Nat} {k : Int32} {w : Int64} {K : List KE} {σ σ1 σ2 : PS}
theorem Nx.rf : Nx σ σ := ⟨rfl, rfl, rfl, fun _ _ _ _ _ _ => rfl⟩
theorem Nx.tree {T : TrT} (h : Nx σ σ1) : Nx σ (trP1 σ1 T) := h
theorem co_n {r : Nat × PS × Nat} (e : coM b n m τ j i o σ = .ok r) : Nx σ r.2.1 := by
  unfold coM at e
  obtain ⟨x, -, e⟩ := bind_ok e
  cases e
  refine ⟨rfl, rfl, rfl, fun c x h1 h2 h3 h4 => ?_⟩
  show up2 (up2 σ.1.2.1 62 _ _) 63 _ _ c x = _
  rw [up2_ne (fun z => h4 z.1), up2_ne (fun z => h3 z.1)]
theorem at_n {r : Nat × PS × Nat × Bool} (e : atM b n m τ j i o σ = .ok r) : Nx σ r.2.1 := by
  unfold atM at e
  obtain ⟨x, -, e⟩ := bind_ok e
  obtain ⟨y, e1, e⟩ := bind_ok e
  cases e
  have q := co_n e1
  by_cases h : x.2 = true
  · rw [if_pos h] at q
    exact ⟨q.1, q.2.1, q.2.2.1, fun c z h1 h2 h3 h4 => (q.2.2.2 c z h1 h2 h3 h4).trans (by show up2 σ.1.2.1 61 _ _ c z = _; exact up2_ne (fun z => h2 z.1))⟩
  · rw [if_neg h] at q; exact q
/-- one sum was read, into cells 64 and 65 of part j -/
def S1x (m j : Nat) (σ σ' : PS) : Prop := giS σ' = giS σ ∧ ∃ Y, NeY σ.2.2.1 Y ∧ σ'.2.2.1 = σ.2.2.1 ++ Y ∧ usS σ' = usS σ ||| usX Y ∧ σ'.1.2.1 64 (40 * m + j) = Int32.ofNat (810 * m + σ.2.2.1.length) ∧ σ'.1.2.1 65 (40 * m + j) = Int32.ofNat (810 * m + (σ.2.2.1.length + Y.length - 1)) ∧ ∀ c x, c ≠ 60 → c ≠ 64 → c ≠ 65 → σ'.1.2.1 c x = σ.1.2.1 c x
theorem su_s (hv : HvT τ) {r : Nat × PS} (e : suM b n m τ j 64 65 fo i o σ = .ok r) : S1x m j σ r.2 := by
  obtain ⟨h1, Y, h2, h3, h4, h5⟩ := su_u hv e
  refine ⟨h1, Y, h2, h3, h4, ?_, ?_, fun c x z1 z2 z3 => ?_⟩
  · rw [h5, up2_ne (fun z => absurd z.1 (by decide))]; exact up2_eq
  · rw [h5]; exact up2_eq
  · rw [h5, up2_ne (fun z => z3 z.1), up2_ne (fun z => z2 z.1)]
theorem em_n (hv : HvT τ) {r : Nat × PS × Nat} (e : emM b n m τ k j i o σ = .ok r) : Nx σ r.2.1 ∨ S1x m j σ r.2.1 := by
  unfold emM at e
  by_cases h1 : tK b n i = 2
  · rw [if_pos h1] at e
    cases h2 : fd τ.1 (tC b n i) with
    | none => rw [h2] at e; cases e
    | some s =>
      rw [h2] at e
      have e : (if τ.2.1.getD s 0 = 30 then Except.error (4, tP b n i) else (adv' b n i).bind fun i2 => _) = .ok r := e
      by_cases h3 : τ.2.1.getD s 0 = 30
      · rw [if_pos h3] at e; cases e
      rw [if_neg h3] at e
      obtain ⟨i2, -, e⟩ := bind_ok e
      by_cases h4 : τ.2.2.1.getD s 0 = 0
      · rw [if_pos h4] at e
        by_cases h5 : k = 40 ∧ tK b n i2 = 15
        · rw [if_pos h5] at e; cases e
        · rw [if_neg h5] at e
          cases e
          exact Or.inl ⟨rfl, rfl, rfl, fun c x z1 _ _ _ => up2_ne (fun z => z1 z.1)⟩
      rw [if_neg h4] at e
      by_cases h5 : k = 40 ∧ tK b n i2 = 15
      · rw [if_pos h5] at e
        by_cases h6 : o = 15
        · rw [if_pos h6] at e; cases e
        rw [if_neg h6] at e
        obtain ⟨i3, -, e⟩ := bind_ok e
        obtain ⟨y, e1, e⟩ := bind_ok e
        obtain ⟨i4, -, e⟩ := bind_ok e
        cases e
        obtain ⟨q1, Y, q2, q3, q4, q5, q6, q7⟩ := su_s hv e1
        exact Or.inr ⟨q1, Y, q2, q3, q4, q5, q6, fun c x z1 z2 z3 => (q7 c x z1 z2 z3).trans (by show up2 σ.1.2.1 60 _ _ c x = _; exact up2_ne (fun z => z1 z.1))⟩
      · rw [if_neg h5] at e; cases e
  · rw [if_neg h1] at e; cases e
/-- what a beginning part says -/
def Bg0 (m j : Nat) (k : Int32) (σ : PS) : Prop := σ.1.2.1 58 (40 * m + j) = Int32.ofNat (soK k) ∧ σ.1.2.1 65 (40 * m + j) = -1 ∧ σ.1.2.1 67 (40 * m + j) = -1
theorem Nx.gu (h : Nx σ σ1) (h0 : Bg0 m j k σ) (h2 : k ≠ 2) : GU m j σ σ1 ∧ ∃ Y, σ1.2.2.1 = σ.2.2.1 ++ Y := by
  obtain ⟨a1, a2, a3, a4⟩ := h
  refine ⟨GU.no (fun z => h2 (so15 ?_)) ?_ ?_ a1 a2, [], by rw [List.append_nil]; exact a3⟩
  · rw [← h0.1, ← a4 58 _ (by decide) (by decide) (by decide) (by decide)]; exact z
  · rw [a4 65 _ (by decide) (by decide) (by decide) (by decide)]; exact h0.2.1
  · rw [a4 67 _ (by decide) (by decide) (by decide) (by decide)]; exact h0.2.2
theorem S1x.gu (h4 : m < 4) (h : S1x m j σ σ1) (hX : σ1.2.2.1.length < 900) (h0 : Bg0 m j k σ) (h2 : k ≠ 2) : GU m j σ σ1 ∧ ∃ Y, σ1.2.2.1 = σ.2.2.1 ++ Y := by
  obtain ⟨a1, Y, a2, a3, a4, a5, a6, a7⟩ := h
  have e58 := a7 58 (40 * m + j) (by decide) (by decide) (by decide)
  have e67 := (a7 67 (40 * m + j) (by decide) (by decide) (by decide)).trans h0.2.2
  rw [a3, List.length_append] at hX
  have q := usI_new (Z := []) h4 hX a2 a5 a6
  rw [List.append_nil, ← a3] at q
  refine ⟨⟨?_, ?_, q.2, Or.inl e67⟩, Y, a3⟩
  · unfold gvK; rw [e58, if_neg (fun z => h2 (so15 (h0.1.symm.trans z))), Int32.or_zero]; exact a1
  · unfold uvK
    rw [q.1]
    unfold usI
    rw [if_pos e67, Int32.or_zero]
    exact a4
end
end
section
/-! what parts give and use: leaves, heads, tails, whole -/
section
variable {b : Nat → Int32} {n m : Nat} {τ : Td} {j i o f1 f2 fo x aw lit y : Nat} {k : Int32} {w : Int64} {K : List KE} {σ σ1 σ2 : PS}
theorem lf_u (h4 : m < 4) (hv : HvT τ) {r : Nat × PS × Nat} (e : lfM b n m τ k w j i K σ = .ok r) (hX : r.2.1.2.2.1.length < 900) (h0 : Bg0 m j k σ) (h60 : k = 2 → σ.1.2.1 60 (40 * m + j) = oi (fd τ.2.2.2.1 w)) : GU m j σ r.2.1 ∧ ∃ Y, r.2.1.2.2.1 = σ.2.2.1 ++ Y := by
  unfold lfM at e
  by_cases k1 : k = 38
  · rw [if_pos k1] at e; cases e; exact Nx.rf.tree.gu h0 (by rw [k1]; decide)
  rw [if_neg k1] at e
  by_cases k2 : k = 39
  · rw [if_pos k2] at e; cases e; exact Nx.rf.tree.gu h0 (by rw [k2]; decide)
  rw [if_neg k2] at e
  by_cases k3 : k = 40
  · rw [if_pos k3] at e
    obtain ⟨y, e1, e⟩ := bind_ok e
    cases e
    rcases em_n hv e1 with q | q
    · exact q.tree.gu h0 (by rw [k3]; decide)
    · exact S1x.gu (σ1 := trP1 y.2.1 (emT (trS y.2.1) y.2.2).1) h4 q hX h0 (by rw [k3]; decide)
  rw [if_neg k3] at e
  by_cases k4 : k = 41
  · rw [if_pos k4] at e
    obtain ⟨y, e1, e⟩ := bind_ok e
    cases e
    rcases em_n hv e1 with q | q
    · exact q.tree.gu h0 (by rw [k4]; decide)
    · exact S1x.gu (σ1 := trP1 y.2.1 (stT (trS y.2.1) y.2.2).1) h4 q hX h0 (by rw [k4]; decide)
  rw [if_neg k4] at e
  by_cases k5 : k = 47
  · rw [if_pos k5] at e
    obtain ⟨y, e1, e⟩ := bind_ok e
    cases e
    exact (at_n e1).tree.gu h0 (by rw [k5]; decide)
  rw [if_neg k5] at e
  by_cases k6 : k = 57
  · rw [if_pos k6] at e
    by_cases h1 : tK b n i = 2
    · rw [if_pos h1] at e
      cases h2 : trW K (tC b n i) with
      | none => rw [h2] at e; cases e
      | some q =>
        rw [h2] at e
        obtain ⟨i2, -, e⟩ := bind_ok e
        cases e
        have z : Nx σ (raP σ (up2 σ.1.2.1 60 (40 * m + j) (Int32.ofNat q.2))) := ⟨rfl, rfl, rfl, fun c x z1 _ _ _ => up2_ne (fun z => z1 z.1)⟩
        exact z.tree.gu h0 (by rw [k6]; decide)
    · rw [if_neg h1] at e; cases e
  rw [if_neg k6] at e
  by_cases k7 : k = 2
  · rw [if_pos k7] at e
    obtain ⟨i2, -, e⟩ := bind_ok e
    obtain ⟨y, e1, e⟩ := bind_ok e
    obtain ⟨q1, Y, q2, q3, q4, q5⟩ := su_u hv e1
    cases e
    have q1 : giS y.2 = giS σ ||| ((1 : Int32) <<< (oi (fd τ.2.2.2.1 w) &&& 31)) := q1
    have q3 : y.2.2.2.1 = σ.2.2.1 ++ Y := q3
    have q4 : usS y.2 = usS σ ||| usX Y := q4
    have q5 : y.2.1.2.1 = up2 (up2 σ.1.2.1 64 (40 * m + j) (Int32.ofNat (810 * m + σ.2.2.1.length))) 65 (40 * m + j) (Int32.ofNat (810 * m + (σ.2.2.1.length + Y.length - 1))) := q5
    have hX : y.2.2.2.1.length < 900 := hX
    have hX2 : σ.2.2.1.length + Y.length < 900 := by rw [q3, List.length_append] at hX; exact hX
    have f : ∀ c x, c ≠ 64 → c ≠ 65 → y.2.1.2.1 c x = σ.1.2.1 c x := fun c x z1 z2 => by rw [q5, up2_ne (fun z => z2 z.1), up2_ne (fun z => z1 z.1)]
    have a64 : y.2.1.2.1 64 (40 * m + j) = Int32.ofNat (810 * m + σ.2.2.1.length) := by rw [q5, up2_ne (fun z => absurd z.1 (by decide))]; exact up2_eq
    have a65 : y.2.1.2.1 65 (40 * m + j) = Int32.ofNat (810 * m + (σ.2.2.1.length + Y.length - 1)) := by rw [q5]; exact up2_eq
    have e58 := (f 58 (40 * m + j) (by decide) (by decide)).trans h0.1
    have e60 := (f 60 (40 * m + j) (by decide) (by decide)).trans (h60 k7)
    have e67 := (f 67 (40 * m + j) (by decide) (by decide)).trans h0.2.2
    have q := usI_new (Z := []) h4 hX2 q2 a64 a65
    rw [List.append_nil, ← q3] at q
    have gz : gvK y.2.1.2.1 m j = (1 : Int32) <<< (oi (fd τ.2.2.2.1 w) &&& 31) := by
      unfold gvK
      rw [e58, e60, k7, if_pos (by decide)]
    have uz : uvK y.2.1.2.1 y.2.2.2.1 m j = usX Y := by
      unfold uvK
      rw [q.1]
      unfold usI
      rw [if_pos e67, Int32.or_zero]
    exact ⟨⟨by show giS y.2 = giS σ ||| gvK y.2.1.2.1 m j; rw [gz]; exact q1, by show usS y.2 = usS σ ||| uvK y.2.1.2.1 y.2.2.2.1 m j; rw [uz]; exact q4, q.2, Or.inl e67⟩, Y, q3⟩
  rw [if_neg k7] at e
  cases e; exact Nx.rf.tree.gu h0 k7
/-- a tail: masks, sums and most cells as they were -/
def Tg (σ σ' : PS) : Prop := giS σ' = giS σ ∧ usS σ' = usS σ ∧ σ'.2.2.1 = σ.2.2.1 ∧ ∀ c x, ¬ (61 ≤ c ∧ c ≤ 63) → σ'.1.2.1 c x = σ.1.2.1 c x
theorem Tg.rf : Tg σ σ := ⟨rfl, rfl, rfl, fun _ _ _ => rfl⟩
theorem Tg.tree {T : TrT} (h : Tg σ σ1) : Tg σ (trP1 σ1 T) := h
theorem Tg.pa {f : Nat} {v : Int32} (h : Tg σ σ1) : Tg σ (paP σ1 j f v) := h
theorem co_g {r : Nat × PS × Nat} (e : coM b n m τ j i o σ = .ok r) : Tg σ r.2.1 := by
  unfold coM at e
  obtain ⟨x, -, e⟩ := bind_ok e
  cases e
  refine ⟨rfl, rfl, rfl, fun c x h1 => ?_⟩
  show up2 (up2 σ.1.2.1 62 _ _) 63 _ _ c x = _
  rw [up2_ne (fun z => h1 (by omega)), up2_ne (fun z => h1 (by omega))]
theorem at_g {r : Nat × PS × Nat × Bool} (e : atM b n m τ j i o σ = .ok r) : Tg σ r.2.1 := by
  unfold atM at e
  obtain ⟨x, -, e⟩ := bind_ok e
  obtain ⟨y, e1, e⟩ := bind_ok e
  cases e
  have q := co_g e1
  by_cases h : x.2 = true
  · rw [if_pos h] at q
    exact ⟨q.1, q.2.1, q.2.2.1, fun c z h1 => (q.2.2.2 c z h1).trans (by show up2 σ.1.2.1 61 _ _ c z = _; exact up2_ne (fun z => h1 (by omega)))⟩
  · rw [if_neg h] at q; exact q
theorem tl_g {r : Nat × PS × Nat} (e : tlM b n m τ k j aw lit x i o σ = .ok r) : Tg σ r.2.1 := by
  unfold tlM at e
  by_cases k1 : k = 42
  · rw [if_pos k1] at e
    obtain ⟨i2, -, e⟩ := bind_ok e
    cases e
    by_cases h1 : (trS σ).2.2 13 x &&& 1 = 0
    · rw [if_pos h1]; exact Tg.rf.tree
    · rw [if_neg h1]; exact Tg.rf.pa.tree
  rw [if_neg k1] at e
  by_cases k2 : k = 49
  · rw [if_pos k2] at e
    obtain ⟨i2, -, e⟩ := bind_ok e
    obtain ⟨y, e1, e⟩ := bind_ok e
    obtain ⟨i3, -, e⟩ := bind_ok e
    have g := at_g e1
    by_cases h1 : y.2.2.2 = true
    · rw [if_pos h1] at e; cases e; exact g.tree
    · rw [if_neg h1] at e; cases e; exact g.tree
  rw [if_neg k2] at e
  by_cases k3 : k = 50
  · rw [if_pos k3] at e
    obtain ⟨i2, -, e⟩ := bind_ok e
    obtain ⟨y, e1, e⟩ := bind_ok e
    obtain ⟨i3, -, e⟩ := bind_ok e
    cases e
    exact (at_g e1).tree
  rw [if_neg k3] at e
  by_cases k4 : k = 52
  · rw [if_pos k4] at e
    obtain ⟨i2, -, e⟩ := bind_ok e
    obtain ⟨y, e1, e⟩ := bind_ok e
    obtain ⟨i3, -, e⟩ := bind_ok e
    cases e
    exact (co_g e1).tree
  rw [if_neg k4] at e
  by_cases k5 : k = 53
  · rw [if_pos k5] at e
    obtain ⟨i2, -, e⟩ := bind_ok e
    cases e
    exact Tg.rf.tree
  rw [if_neg k5] at e
  obtain ⟨i2, -, e⟩ := bind_ok e
  cases e
  exact Tg.rf.tree
end
end
section
/-! what parts give and use: heads -/
section
variable {b : Nat → Int32} {n m : Nat} {τ : Td} {j i : Nat} {k : Int32} {K : List KE} {σ σ1 σ2 : PS}
/-- the head of an if: two sums -/
theorem if_v (h4 : m < 4) {Y1 Y2 : List Nd} {t : Int32} (h0 : Bg0 m j k σ) (h2 : k ≠ 2) (n1 : NeY σ.2.2.1 Y1) (n2 : NeY (σ.2.2.1 ++ Y1) Y2) (eX : σ1.2.2.1 = σ.2.2.1 ++ Y1 ++ Y2) (hX : σ1.2.2.1.length < 900) (eg : giS σ1 = giS σ) (eu : usS σ1 = usS σ ||| usX Y1 ||| usX Y2) (eA : σ1.1.2.1 = up2 (up2 (up2 (up2 (up2 σ.1.2.1 64 (40 * m + j) (Int32.ofNat (810 * m + σ.2.2.1.length))) 65 (40 * m + j) (Int32.ofNat (810 * m + (σ.2.2.1.length + Y1.length - 1)))) 68 (40 * m + j) t) 66 (40 * m + j) (Int32.ofNat (810 * m + (σ.2.2.1 ++ Y1).length))) 67 (40 * m + j) (Int32.ofNat (810 * m + ((σ.2.2.1 ++ Y1).length + Y2.length - 1)))) : GU m j σ σ1 ∧ ∃ Y, σ1.2.2.1 = σ.2.2.1 ++ Y := by
  have hX2 : (σ.2.2.1 ++ Y1).length + Y2.length < 900 := by rw [eX, List.length_append] at hX; exact hX
  have hX1 : σ.2.2.1.length + Y1.length < 900 := by rw [List.length_append] at hX2; omega
  have a58 : σ1.1.2.1 58 (40 * m + j) = Int32.ofNat (soK k) := by
    rw [eA, up2_ne (fun z => absurd z.1 (by decide)), up2_ne (fun z => absurd z.1 (by decide)), up2_ne (fun z => absurd z.1 (by decide)), up2_ne (fun z => absurd z.1 (by decide)), up2_ne (fun z => absurd z.1 (by decide))]; exact h0.1
  have a64 : σ1.1.2.1 64 (40 * m + j) = Int32.ofNat (810 * m + σ.2.2.1.length) := by
    rw [eA, up2_ne (fun z => absurd z.1 (by decide)), up2_ne (fun z => absurd z.1 (by decide)), up2_ne (fun z => absurd z.1 (by decide)), up2_ne (fun z => absurd z.1 (by decide))]; exact up2_eq
  have a65 : σ1.1.2.1 65 (40 * m + j) = Int32.ofNat (810 * m + (σ.2.2.1.length + Y1.length - 1)) := by
    rw [eA, up2_ne (fun z => absurd z.1 (by decide)), up2_ne (fun z => absurd z.1 (by decide)), up2_ne (fun z => absurd z.1 (by decide))]; exact up2_eq
  have a66 : σ1.1.2.1 66 (40 * m + j) = Int32.ofNat (810 * m + (σ.2.2.1 ++ Y1).length) := by
    rw [eA, up2_ne (fun z => absurd z.1 (by decide))]; exact up2_eq
  have a67 : σ1.1.2.1 67 (40 * m + j) = Int32.ofNat (810 * m + ((σ.2.2.1 ++ Y1).length + Y2.length - 1)) := by
    rw [eA]; exact up2_eq
  have q1 := usI_new (Z := Y2) h4 hX1 n1 a64 a65
  have q2 := usI_new (Z := []) h4 hX2 n2 a66 a67
  rw [List.append_nil] at q2
  rw [← eX] at q1 q2
  refine ⟨⟨?_, ?_, q1.2, q2.2⟩, Y1 ++ Y2, by rw [eX, List.append_assoc]⟩
  · unfold gvK; rw [a58, if_neg (fun z => h2 (so15 z)), Int32.or_zero]; exact eg
  · unfold uvK; rw [q1.1, q2.1, ← Int32.or_assoc]; exact eu
theorem hd_u (h4 : m < 4) (hv : HvT τ) {r : Nat × PS × Nat × Bool × Nat × Option Int64} (e : hdM b n m τ k j i K σ = .ok r) (hX : r.2.1.2.2.1.length < 900) (h0 : Bg0 m j k σ) (hk : k ≠ 2) : GU m j σ r.2.1 ∧ ∃ Y, r.2.1.2.2.1 = σ.2.2.1 ++ Y := by
  unfold hdM at e
  by_cases k1 : k = 44
  · rw [if_pos k1] at e
    obtain ⟨y, e1, e⟩ := bind_ok e
    obtain ⟨i2, -, e⟩ := bind_ok e
    have q := co_n e1
    cases e; exact q.gu h0 hk
  rw [if_neg k1] at e
  by_cases k2 : k = 49
  · rw [if_pos k2] at e; cases e; exact Nx.rf.gu h0 hk
  rw [if_neg k2] at e
  by_cases k3 : k = 50
  · rw [if_pos k3] at e
    obtain ⟨i2, -, e⟩ := bind_ok e
    cases e; exact Nx.rf.gu h0 hk
  rw [if_neg k3] at e
  by_cases k4 : k = 53
  · rw [if_pos k4] at e
    obtain ⟨y, e1, e⟩ := bind_ok e
    obtain ⟨i2, -, e⟩ := bind_ok e
    cases e; exact (at_n e1).tree.gu h0 hk
  rw [if_neg k4] at e
  by_cases k5 : k = 55
  · rw [if_pos k5] at e
    by_cases h1 : tK b n i = 2
    · rw [if_pos h1] at e
      by_cases h2 : toT (tC b n i) τ = true ∨ (trW K (tC b n i)).isSome = true
      · rw [if_pos h2] at e; cases e
      rw [if_neg h2] at e
      obtain ⟨i2, -, e⟩ := bind_ok e
      obtain ⟨i3, -, e⟩ := bind_ok e
      cases e
      have z : Nx σ ((σ.1.1, σ.1.2.1, va_up σ.1.2.2 (40 * m + j) (rV b n (tP b n i))), σ.2) := ⟨rfl, rfl, rfl, fun _ _ _ _ _ _ => rfl⟩
      exact z.gu h0 hk
    · rw [if_neg h1] at e; cases e
  rw [if_neg k5] at e
  by_cases k6 : k = 58
  · rw [if_pos k6] at e
    obtain ⟨y, e1, e⟩ := bind_ok e
    obtain ⟨p1, Y1, p2, p3, p4, p5⟩ := su_u hv e1
    by_cases h1 : 7 ≤ tK b n y.1 ∧ tK b n y.1 ≤ 12
    · rw [if_pos h1] at e
      obtain ⟨i2, -, e⟩ := bind_ok e
      obtain ⟨z, e2, e⟩ := bind_ok e
      obtain ⟨i3, -, e⟩ := bind_ok e
      obtain ⟨q1, Y2, q2, q3, q4, q5⟩ := su_u hv e2
      have p1 : giS y.2 = giS σ := p1
      have p3 : y.2.2.2.1 = σ.2.2.1 ++ Y1 := p3
      have p4 : usS y.2 = usS σ ||| usX Y1 := p4
      have p5 : y.2.1.2.1 = up2 (up2 σ.1.2.1 64 (40 * m + j) (Int32.ofNat (810 * m + σ.2.2.1.length))) 65 (40 * m + j) (Int32.ofNat (810 * m + (σ.2.2.1.length + Y1.length - 1))) := p5
      have q1 : giS z.2 = giS y.2 := q1
      have q3 : z.2.2.2.1 = y.2.2.2.1 ++ Y2 := q3
      have q4 : usS z.2 = usS y.2 ||| usX Y2 := q4
      have q5 : z.2.1.2.1 = up2 (up2 (up2 y.2.1.2.1 68 (40 * m + j) (tK b n y.1 - 7)) 66 (40 * m + j) (Int32.ofNat (810 * m + y.2.2.2.1.length))) 67 (40 * m + j) (Int32.ofNat (810 * m + (y.2.2.2.1.length + Y2.length - 1))) := q5
      have q2 : NeY y.2.2.2.1 Y2 := q2
      have p2 : NeY σ.2.2.1 Y1 := p2
      rw [p3] at q2 q3 q5
      rw [p4] at q4
      rw [p5] at q5
      cases e
      have hX : z.2.2.2.1.length < 900 := hX
      have g := if_v (σ1 := z.2) h4 h0 hk p2 q2 q3 hX (q1.trans p1) q4 q5
      exact g
    · rw [if_neg h1] at e; cases e
  rw [if_neg k6] at e
  by_cases k7 : k = 17
  · rw [if_pos k7] at e
    cases e; exact Nx.rf.tree.gu h0 hk
  rw [if_neg k7] at e
  cases e; exact Nx.rf.gu h0 hk
end
end
