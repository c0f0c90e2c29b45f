/-! the codes of nodes -/
def CdA (Θ : TrT) : Prop := 1 ≤ Θ.1 ∧ ∀ x, 1 ≤ x → x < Θ.1 → Θ.2.2 5 x ≠ 1 → Θ.2.2 5 x ≠ 3 → ∃ cd, Θ.2.2 11 x = Int32.ofNat cd ∧ cd < 2147483648 ∧ (Θ.2.2 5 x = 2 → cd < 16)
def J2 (Θ Θ' : TrT) : Prop := CdA Θ → CdA Θ'
section
variable {Θ Θ1 Θ2 : TrT} {c d v x aw a : Nat} {k l : Int32} {im : Bool}
theorem J2.rf : J2 Θ Θ := fun h => h
theorem J2.tr (h : J2 Θ Θ1) (g : J2 Θ1 Θ2) : J2 Θ Θ2 := fun z => g (h z)
theorem J2.of (e : Θ1 = Θ) : J2 Θ Θ1 := by rw [e]; exact J2.rf
theorem n6_mk : J2 Θ (mkT Θ k).1 := fun h => by
  unfold mkT
  by_cases z : Θ.1 < 640
  · rw [if_pos z]
    refine ⟨Nat.le_add_left _ _, fun x x1 x2 => ?_⟩
    have x2 : x < Θ.1 + 1 := x2
    obtain ⟨A, eA⟩ : ∃ A, A = up2 (up2 (up2 (up2 (up2 (up2 (up2 (up2 (up2 Θ.2.2 5 Θ.1 k) 6 Θ.1 0) 7 Θ.1 0) 8 Θ.1 0) 9 Θ.1 0) 10 Θ.1 0) 11 Θ.1 0) 12 Θ.1 0) 13 Θ.1 (if k = 0 ∨ k = 5 then (1 : Int32) else 0) := ⟨_, rfl⟩
    show (_ : Prop)
    have e5 : A 5 x = up2 Θ.2.2 5 Θ.1 k 5 x := by rw [eA, up2_row (by decide), up2_row (by decide), up2_row (by decide), up2_row (by decide), up2_row (by decide), up2_row (by decide), up2_row (by decide), up2_row (by decide)]
    have e11 : A 11 x = if x = Θ.1 then 0 else Θ.2.2 11 x := by
      rw [eA, up2_row (by decide), up2_row (by decide)]
      by_cases y : x = Θ.1
      · rw [if_pos y, y, up2_eq]
      · rw [if_neg y, up2_ne (fun q => y q.2), up2_row (by decide), up2_row (by decide), up2_row (by decide), up2_row (by decide), up2_row (by decide), up2_row (by decide)]
    have goal : A 5 x ≠ 1 → A 5 x ≠ 3 → ∃ cd, A 11 x = Int32.ofNat cd ∧ cd < 2147483648 ∧ (A 5 x = 2 → cd < 16) := by
      rw [e11]
      by_cases y : x = Θ.1
      · rw [if_pos y]
        exact fun _ _ => ⟨0, rfl, by decide, fun _ => by decide⟩
      · rw [if_neg y, e5, up2_ne (fun q => y q.2)]
        exact h.2 x x1 (by omega)
    rw [eA] at goal
    exact goal
  · rw [if_neg z]; exact h
theorem n6_hg : J2 Θ (hgT Θ a c) := fun h => by
  unfold hgT
  by_cases z : a = 0 ∨ c = 0
  · rw [if_pos z]; exact h
  · rw [if_neg z]
    have e : ∀ q x, q = 5 ∨ q = 11 → hgA Θ.2.2 a c q x = Θ.2.2 q x := by
      intro q x hq
      unfold hgA
      rw [up2_row (by omega)]
      by_cases y : Θ.2.2 6 a = 0
      · rw [if_pos y, up2_row (by omega), up2_row (by omega), up2_row (by omega), up2_row (by omega)]
      · rw [if_neg y, up2_row (by omega), up2_row (by omega), up2_row (by omega), up2_row (by omega)]
    refine ⟨h.1, fun x x1 x2 => ?_⟩
    show hgA Θ.2.2 a c 5 x ≠ 1 → hgA Θ.2.2 a c 5 x ≠ 3 → ∃ cd, hgA Θ.2.2 a c 11 x = Int32.ofNat cd ∧ cd < 2147483648 ∧ (hgA Θ.2.2 a c 5 x = 2 → cd < 16)
    rw [e 5 x (Or.inl rfl), e 11 x (Or.inr rfl)]
    exact h.2 x x1 x2
theorem n6_up {q j : Nat} {w : Int32} {n p : Nat} (hq : q ≠ 5) (hq2 : q ≠ 11) {A : Nat → Nat → Int32} : J2 (n, p, A) (n, p, up2 A q j w) := fun h => by
  refine ⟨h.1, fun x x1 x2 => ?_⟩
  show up2 A q j w 5 x ≠ 1 → up2 A q j w 5 x ≠ 3 → ∃ cd, up2 A q j w 11 x = Int32.ofNat cd ∧ cd < 2147483648 ∧ (up2 A q j w 5 x = 2 → cd < 16)
  rw [up2_row (fun e => hq e.symm), up2_row (fun e => hq2 e.symm)]
  exact h.2 x x1 x2
theorem n6_x {j : Nat} {w : Int32} {n p p' : Nat} {A : Nat → Nat → Int32} (hj : A 5 j = 1 ∨ A 5 j = 3 ∨ j = 0) : J2 (n, p, A) (n, p', up2 A 11 j w) := fun h => by
  refine ⟨h.1, fun x x1 x2 => ?_⟩
  show up2 A 11 j w 5 x ≠ 1 → up2 A 11 j w 5 x ≠ 3 → ∃ cd, up2 A 11 j w 11 x = Int32.ofNat cd ∧ cd < 2147483648 ∧ (up2 A 11 j w 5 x = 2 → cd < 16)
  rw [up2_row (by decide)]
  intro k1 k3
  by_cases y : x = j
  · rw [y] at k1 k3
    rcases hj with z | z | z
    · exact absurd z k1
    · exact absurd z k3
    · omega
  · rw [up2_ne (fun q => y q.2)]
    exact h.2 x x1 x2 k1 k3
theorem n6_v {j n p : Nat} {A : Nat → Nat → Int32} (hv : v < 16) : J2 (n, p, A) (n, p, up2 A 11 j (Int32.ofNat v)) := fun h => by
  refine ⟨h.1, fun x x1 x2 => ?_⟩
  show up2 A 11 j (Int32.ofNat v) 5 x ≠ 1 → up2 A 11 j (Int32.ofNat v) 5 x ≠ 3 → ∃ cd, up2 A 11 j (Int32.ofNat v) 11 x = Int32.ofNat cd ∧ cd < 2147483648 ∧ (up2 A 11 j (Int32.ofNat v) 5 x = 2 → cd < 16)
  rw [up2_row (by decide)]
  intro k1 k3
  by_cases y : x = j
  · rw [y, up2_eq]
    exact ⟨v, rfl, by omega, fun _ => hv⟩
  · rw [up2_ne (fun q => y q.2)]
    exact h.2 x x1 x2 k1 k3
theorem mk_k : (mkT Θ k).2 = 0 ∨ (mkT Θ k).1.2.2 5 (mkT Θ k).2 = k := by
  unfold mkT
  by_cases z : Θ.1 < 640
  · rw [if_pos z]
    right
    show up2 (up2 (up2 (up2 (up2 (up2 (up2 (up2 (up2 Θ.2.2 5 Θ.1 k) 6 Θ.1 0) 7 Θ.1 0) 8 Θ.1 0) 9 Θ.1 0) 10 Θ.1 0) 11 Θ.1 0) 12 Θ.1 0) 13 Θ.1 (if k = 0 ∨ k = 5 then 1 else 0) 5 Θ.1 = k
    rw [up2_row (by decide), up2_row (by decide), up2_row (by decide), up2_row (by decide), up2_row (by decide), up2_row (by decide), up2_row (by decide), up2_row (by decide), up2_eq]
  · rw [if_neg z]; exact Or.inl rfl
theorem n6_wr : J2 Θ (wrT Θ k c).1 := n6_mk.tr n6_hg
theorem n6_pr : J2 Θ (prT Θ k c d).1 := (n6_mk.tr n6_hg).tr n6_hg
theorem n6_pa : J2 Θ (paT Θ).1 := ((n6_mk (k := 1)).tr (n6_x (p' := (mkT Θ 1).1.2.1 + 1) ((mk_k (Θ := Θ) (k := 1)).elim (fun z => Or.inr (Or.inr z)) (fun z => Or.inl z)))).tr ((n6_up (q := 12) (by decide) (by decide)).tr (n6_up (q := 13) (by decide) (by decide)))
theorem n6_em (hv : v < 16) : J2 Θ (emT Θ v).1 := (n6_mk (k := 2)).tr ((n6_v hv).tr (n6_up (q := 13) (by decide) (by decide)))
theorem n6_ex : J2 Θ (exT Θ v).1 := (n6_mk (k := 3)).tr ((n6_x (p' := (mkT Θ 3).1.2.1) ((mk_k (Θ := Θ) (k := 3)).elim (fun z => Or.inr (Or.inr z)) (fun z => Or.inr (Or.inl z)))).tr (n6_up (q := 13) (by decide) (by decide)))
theorem n6_ch : J2 Θ (chT Θ l c d).1 := n6_pr.tr (n6_up (q := 10) (by decide) (by decide))
theorem n6_su : J2 Θ (suT Θ c l).1 := n6_wr.tr (n6_up (q := 10) (by decide) (by decide))
theorem n6_ha : J2 Θ (haT Θ).1 := n6_pa.tr n6_wr
theorem n6_st (hv : v < 16) : J2 Θ (stT Θ v).1 := (((n6_em hv).tr n6_pa).tr n6_pr).tr n6_wr
theorem n6_w1 : J2 Θ (wt1 Θ).1 := (n6_pa.tr n6_ex).tr n6_mk
theorem n6_w2 : J2 Θ (wt2 Θ l).1 := n6_w1.tr n6_ch
theorem n6_w3 : J2 Θ (wt3 Θ l im).1 := by
  cases im with
  | true => exact n6_w2.tr n6_pr
  | false => exact n6_w2.tr n6_pr
theorem n6_wa : J2 Θ (waT Θ l im).1 := n6_w3.tr n6_wr
theorem n6_aw : J2 Θ (awT Θ l im).1 := n6_wa.tr n6_wr
theorem n6_k1 : J2 Θ (wk1 Θ c).1 := n6_ex.tr n6_pr
theorem n6_k2 : J2 Θ (wk2 Θ c l im).1 := by unfold wk2; exact n6_k1.tr n6_wa
theorem n6_wk : J2 Θ (wkT Θ c l im).1 := by unfold wkT wk3; exact (n6_k2.tr n6_pr).tr n6_wr
theorem n6_ab : J2 Θ (abT Θ c l).1 := by unfold abT; exact n6_su.tr n6_wk
theorem n6_ev : J2 Θ (evT Θ x aw l).1 := by
  have a4 : J2 (haT Θ).1 (ev1 Θ x).1 := by unfold ev1; exact n6_pr
  have a3 : J2 (ev1 Θ x).1 (ev2 Θ x l).1 := by unfold ev2; exact n6_ab
  have a2 : J2 (ev2 Θ x l).1 (ev3 Θ x l).1 := by unfold ev3; exact n6_wr
  have a1 : J2 (ev3 Θ x l).1 (evT Θ x aw l).1 := by unfold evT; exact n6_pr
  exact (((n6_ha.tr a4).tr a3).tr a2).tr a1
end
section
variable {b : Nat → Int32} {n m : Nat} {τ : Td} {j i o f1 f2 fo x aw lit y : Nat} {k : Int32} {w : Int64} {K : List KE} {σ σ1 σ2 : PS}
def Cj (σ σ' : PS) : Prop := J2 (trS σ) (trS σ')
theorem Sx.cj {r : TrT} (h : Sx σ σ1) (g : J2 (trS σ1) r) : Cj σ (trP1 σ1 r) := by
  rw [h.2] at g; exact g
theorem br_j {j a x : Nat} {g u : Int32} : Cj σ (brP σ j a x g u) := by
  unfold brP
  split
  · exact n6_hg
  · exact n6_hg
theorem em_lt {r : Nat × PS × Nat} (hv : τ.1.length ≤ 16) (e : emM b n m τ k j i o σ = .ok r) : r.2.2 < 16 := by
  unfold emM at e
  by_cases h1 : tK b n i = 2
  · rw [if_pos h1] at e
    cases h2 : fd τ.1 (tC b n i) with
    | none => rw [h2] at e; cases e
    | some s =>
      have hs : s < 16 := by have := (fd_some h2).1; omega
      rw [h2] at e
      have e : (if τ.2.1.getD s 0 = 30 then Except.error (4, tP b n i) else (adv' b n i).bind fun i2 => _) = .ok r := e
      by_cases h3 : τ.2.1.getD s 0 = 30
      · rw [if_pos h3] at e; cases e
      rw [if_neg h3] at e
      obtain ⟨i2, -, e⟩ := bind_ok e
      by_cases h4 : τ.2.2.1.getD s 0 = 0
      · rw [if_pos h4] at e
        by_cases h5 : k = 40 ∧ tK b n i2 = 15
        · rw [if_pos h5] at e; cases e
        · rw [if_neg h5] at e; cases e; exact hs
      rw [if_neg h4] at e
      by_cases h5 : k = 40 ∧ tK b n i2 = 15
      · rw [if_pos h5] at e
        by_cases h6 : o = 15
        · rw [if_pos h6] at e; cases e
        rw [if_neg h6] at e
        obtain ⟨i3, -, e⟩ := bind_ok e
        obtain ⟨y, e1, e⟩ := bind_ok e
        obtain ⟨i4, -, e⟩ := bind_ok e
        cases e
        exact hs
      · rw [if_neg h5] at e; cases e
  · rw [if_neg h1] at e; cases e
theorem lf_j {r : Nat × PS × Nat} (hv : τ.1.length ≤ 16) (e : lfM b n m τ k w j i K σ = .ok r) : Cj σ r.2.1 := by
  unfold lfM at e
  by_cases k1 : k = 38
  · rw [if_pos k1] at e; cases e; exact (Sx.rf.cj n6_pa)
  rw [if_neg k1] at e
  by_cases k2 : k = 39
  · rw [if_pos k2] at e; cases e; exact (Sx.rf.cj n6_ha)
  rw [if_neg k2] at e
  by_cases k3 : k = 40
  · rw [if_pos k3] at e
    obtain ⟨y, e1, e⟩ := bind_ok e
    cases e; exact ((em_x e1).cj (n6_em (em_lt hv e1)))
  rw [if_neg k3] at e
  by_cases k4 : k = 41
  · rw [if_pos k4] at e
    obtain ⟨y, e1, e⟩ := bind_ok e
    cases e; exact ((em_x e1).cj (n6_st (em_lt hv e1)))
  rw [if_neg k4] at e
  by_cases k5 : k = 47
  · rw [if_pos k5] at e
    obtain ⟨y, e1, e⟩ := bind_ok e
    cases e; exact ((at_x e1).cj n6_aw)
  rw [if_neg k5] at e
  by_cases k6 : k = 57
  · rw [if_pos k6] at e
    by_cases h1 : tK b n i = 2
    · rw [if_pos h1] at e
      cases h2 : trW K (tC b n i) with
      | none => rw [h2] at e; cases e
      | some q =>
        rw [h2] at e
        obtain ⟨i2, -, e⟩ := bind_ok e
        cases e; exact (Sx.cj (σ1 := raP σ (up2 σ.1.2.1 60 (40 * m + j) (Int32.ofNat q.2))) ⟨rfl, rfl⟩ n6_ex)
    · rw [if_neg h1] at e; cases e
  rw [if_neg k6] at e
  by_cases k7 : k = 2
  · rw [if_pos k7] at e
    obtain ⟨i2, -, e⟩ := bind_ok e
    obtain ⟨y, e1, e⟩ := bind_ok e
    have q := su_x e1
    cases e; exact (Sx.cj (σ := σ) ⟨q.1, q.2⟩ n6_mk)
  rw [if_neg k7] at e
  cases e; exact (Sx.rf.cj n6_mk)
theorem hd_j {r : Nat × PS × Nat × Bool × Nat × Option Int64} (e : hdM b n m τ k j i K σ = .ok r) : Cj σ r.2.1 := by
  unfold hdM at e
  by_cases k1 : k = 44
  · rw [if_pos k1] at e
    obtain ⟨y, e1, e⟩ := bind_ok e
    obtain ⟨i2, -, e⟩ := bind_ok e
    have q := co_x e1
    cases e; exact J2.of q.2
  rw [if_neg k1] at e
  by_cases k2 : k = 49
  · rw [if_pos k2] at e; cases e; exact J2.rf
  rw [if_neg k2] at e
  by_cases k3 : k = 50
  · rw [if_pos k3] at e
    obtain ⟨i2, -, e⟩ := bind_ok e
    cases e; exact J2.rf
  rw [if_neg k3] at e
  by_cases k4 : k = 53
  · rw [if_pos k4] at e
    obtain ⟨y, e1, e⟩ := bind_ok e
    obtain ⟨i2, -, e⟩ := bind_ok e
    cases e; exact ((at_x e1).cj n6_aw)
  rw [if_neg k4] at e
  by_cases k5 : k = 55
  · rw [if_pos k5] at e
    by_cases h1 : tK b n i = 2
    · rw [if_pos h1] at e
      by_cases h2 : toT (tC b n i) τ = true ∨ (trW K (tC b n i)).isSome = true
      · rw [if_pos h2] at e; cases e
      rw [if_neg h2] at e
      obtain ⟨i2, -, e⟩ := bind_ok e
      obtain ⟨i3, -, e⟩ := bind_ok e
      cases e; exact J2.rf
    · rw [if_neg h1] at e; cases e
  rw [if_neg k5] at e
  by_cases k6 : k = 58
  · rw [if_pos k6] at e
    obtain ⟨y, e1, e⟩ := bind_ok e
    have q := su_x e1
    by_cases h1 : 7 ≤ tK b n y.1 ∧ tK b n y.1 ≤ 12
    · rw [if_pos h1] at e
      obtain ⟨i2, -, e⟩ := bind_ok e
      obtain ⟨z, e2, e⟩ := bind_ok e
      obtain ⟨i3, -, e⟩ := bind_ok e
      have q2 := su_x e2
      have g1 : z.2.1.1 = σ.1.1 := q2.1.trans q.1
      have g2 : trS z.2 = trS σ := q2.2.trans q.2
      cases e; exact J2.of g2
    · rw [if_neg h1] at e; cases e
  rw [if_neg k6] at e
  by_cases k7 : k = 17
  · rw [if_pos k7] at e
    cases e; exact (Sx.rf.cj n6_mk)
  rw [if_neg k7] at e
  cases e; exact J2.rf
theorem tl_j {r : Nat × PS × Nat} (e : tlM b n m τ k j aw lit x i o σ = .ok r) : Cj σ r.2.1 := by
  unfold tlM at e
  by_cases k1 : k = 42
  · rw [if_pos k1] at e
    obtain ⟨i2, -, e⟩ := bind_ok e
    cases e
    by_cases h1 : (trS σ).2.2 13 x &&& 1 = 0
    · rw [if_pos h1]; exact (Sx.rf.cj n6_wr)
    · rw [if_neg h1]; exact (Sx.cj (σ := σ) (σ1 := paP σ j 2 7) ⟨rfl, rfl⟩ n6_wr)
  rw [if_neg k1] at e
  by_cases k2 : k = 49
  · rw [if_pos k2] at e
    obtain ⟨i2, -, e⟩ := bind_ok e
    obtain ⟨y, e1, e⟩ := bind_ok e
    obtain ⟨i3, -, e⟩ := bind_ok e
    have g := at_x e1
    by_cases h1 : y.2.2.2 = true
    · rw [if_pos h1] at e
      have b1 := n6_ab (Θ := trS y.2.1) (c := x) (l := Int32.ofNat y.2.2.1)
      have b2 := n6_mk (Θ := (abT (trS y.2.1) x (Int32.ofNat y.2.2.1)).1) (k := 0)
      have b3 := n6_ch (Θ := (mkT (abT (trS y.2.1) x (Int32.ofNat y.2.2.1)).1 0).1) (l := Int32.ofNat y.2.2.1) (c := (mkT (abT (trS y.2.1) x (Int32.ofNat y.2.2.1)).1 0).2) (d := (abT (trS y.2.1) x (Int32.ofNat y.2.2.1)).2)
      cases e
      exact g.cj ((b1.tr b2).tr b3)
    · rw [if_neg h1] at e
      cases e
      exact (g.cj n6_ab)
  rw [if_neg k2] at e
  by_cases k3 : k = 50
  · rw [if_pos k3] at e
    obtain ⟨i2, -, e⟩ := bind_ok e
    obtain ⟨y, e1, e⟩ := bind_ok e
    obtain ⟨i3, -, e⟩ := bind_ok e
    cases e
    exact ((at_x e1).cj n6_wk)
  rw [if_neg k3] at e
  by_cases k4 : k = 52
  · rw [if_pos k4] at e
    obtain ⟨i2, -, e⟩ := bind_ok e
    obtain ⟨y, e1, e⟩ := bind_ok e
    obtain ⟨i3, -, e⟩ := bind_ok e
    cases e
    exact ((co_x e1).cj n6_su)
  rw [if_neg k4] at e
  by_cases k5 : k = 53
  · rw [if_pos k5] at e
    obtain ⟨i2, -, e⟩ := bind_ok e
    cases e
    exact (Sx.rf.cj n6_ev)
  rw [if_neg k5] at e
  obtain ⟨i2, -, e⟩ := bind_ok e
  cases e
  exact (Sx.rf.cj n6_wr)
theorem ch_j {r : Nat × PS × Nat} (e : chM b n lit x y i σ = .ok r) : Cj σ r.2.1 := by
  unfold chM at e
  obtain ⟨i2, -, e⟩ := bind_ok e
  cases e
  exact Sx.rf.cj n6_ch
theorem rp_cd (hv : τ.1.length ≤ 16) : ∀ (g md : Nat) (K : List KE) (i : Nat) (σ : PS) (a1 a2 a3 a4 : Nat) (c1 c2 : Int32) (r : Nat × PS × Nat), md ≤ 3 → rp b n m τ g md K i σ a1 a2 a3 a4 c1 c2 = .ok r → J2 (trS σ) (trS r.2.1) := by
  intro g
  induction g with
  | zero => intro md K i σ a1 a2 a3 a4 c1 c2 r _ e; unfold rp at e; cases e
  | succ g ih =>
    intro md K i σ a1 a2 a3 a4 c1 c2 r hm e
    by_cases m2 : md = 2
    · subst m2
      rw [rp_bd] at e
      obtain ⟨u0, -, e⟩ := bind_ok e
      obtain ⟨i1, -, e⟩ := bind_ok e
      obtain ⟨u, eb, e⟩ := bind_ok e
      cases e
      show J2 (trS σ) (trS u.2.1)
      generalize tK b n i = k at eb
      generalize tC b n i = w at eb
      generalize npS σ = j at eb
      have q1 := (pb_bg (m := m) (σ := σ) (k := k) (pl := tP b n i) (q := sqK K) (d := K.length) (wh := whK k w τ)).2
      generalize bgP m k (tP b n i) (sqK K) K.length (whK k w τ) σ = s0 at eb q1
      rw [← q1]
      unfold bdM at eb
      by_cases ko : opnK k = false
      · rw [if_pos ko] at eb
        exact lf_j hv eb
      rw [if_neg ko] at eb
      obtain ⟨h, eh, eb⟩ := bind_ok eb
      have q2 : J2 (trS s0) (trS (rwP (40 * m + j) none h.2.1)) := hd_j eh
      by_cases k17 : k = 17
      · rw [if_pos k17] at eb
        obtain ⟨q, e1, eb⟩ := bind_ok eb
        cases eb
        exact q2.tr (ih 3 _ _ _ _ _ _ _ _ _ q (by decide) e1)
      rw [if_neg k17] at eb
      obtain ⟨q, e1, eb⟩ := bind_ok eb
      have hq := q2.tr (ih 0 _ _ _ _ _ _ _ _ _ q (by decide) e1)
      by_cases k4 : k = 44 ∨ k = 58
      · rw [if_pos k4] at eb
        by_cases k46 : tK b n q.1 = 46
        · rw [if_pos k46] at eb
          obtain ⟨i2, -, eb⟩ := bind_ok eb
          obtain ⟨t, e2, eb⟩ := bind_ok eb
          have ht : J2 (trS q.2.1) (trS t.2.1) := by
            have q9 := ih 0 _ _ _ _ _ _ _ _ _ t (by decide) e2
            exact q9
          exact (hq.tr ht).tr (ch_j eb)
        · rw [if_neg k46] at eb
          have c1 : Cj q.2.1 (trP1 q.2.1 (mkT (trS q.2.1) 0).1) := Sx.rf.cj n6_mk
          exact (hq.tr c1).tr (ch_j eb)
      rw [if_neg k4] at eb
      exact hq.tr (tl_j eb)
    by_cases m0 : md = 0
    · subst m0
      unfold rp at e
      rw [if_pos rfl] at e
      obtain ⟨q, e1, e⟩ := bind_ok e
      have c1 : Cj σ (trP1 σ (mkT (trS σ) 5).1) := Sx.rf.cj n6_mk
      have hq := J2.tr c1 (ih 2 _ _ _ _ _ _ _ _ _ q (by decide) e1)
      exact (hq.tr n6_hg).tr (ih 1 _ _ _ _ _ _ _ _ _ r (by decide) e)
    by_cases m1 : md = 1
    · subst m1
      unfold rp at e
      rw [if_neg (by decide), if_pos rfl] at e
      by_cases h13 : tK b n i = 13
      · rw [if_pos h13] at e
        obtain ⟨j, -, e⟩ := bind_ok e
        obtain ⟨q, e1, e⟩ := bind_ok e
        have hq := ih 2 _ _ _ _ _ _ _ _ _ q (by decide) e1
        exact (hq.tr n6_hg).tr (ih 1 _ _ _ _ _ _ _ _ _ r (by decide) e)
      · rw [if_neg h13] at e; cases e; exact J2.rf
    · have m3 : md = 3 := by omega
      subst m3
      unfold rp at e
      rw [if_neg m0, if_neg m1, if_neg m2] at e
      obtain ⟨q, e1, e⟩ := bind_ok e
      have hq := ih 0 _ _ _ _ _ _ _ _ _ q (by decide) e1
      have bn : J2 (trS q.2.1) (trS (brP q.2.1 a2 a1 q.2.2 c1 c2)) := br_j (σ := q.2.1) (j := a2) (a := a1) (x := q.2.2) (g := c1) (u := c2)
      by_cases h6 : tK b n q.1 = 6
      · rw [if_pos h6] at e
        by_cases h8 : a4 = 8
        · rw [if_pos h8] at e; cases e
        rw [if_neg h8] at e
        obtain ⟨j, -, e⟩ := bind_ok e
        have h3 : J2 (trS (brP q.2.1 a2 a1 q.2.2 c1 c2)) (trS r.2.1) := by
          have q9 := ih 3 _ _ _ _ _ _ _ _ _ r (by decide) e
          exact q9
        exact (hq.tr bn).tr h3
      · rw [if_neg h6] at e
        obtain ⟨j, -, e⟩ := bind_ok e
        cases e
        exact hq.tr bn
end
