/-! what is emitted is a signal, and no input -/
def EmQ (p : Nat → Prop) (Θ : TrT) : Prop := 1 ≤ Θ.1 ∧ ∀ x, 1 ≤ x → x < Θ.1 → Θ.2.2 5 x = 2 → ∃ s, Θ.2.2 11 x = Int32.ofNat s ∧ p s
def J7 (p : Nat → Prop) (Θ Θ' : TrT) : Prop := EmQ p Θ → EmQ p Θ'
section
variable {Θ Θ1 Θ2 : TrT} {c d v x aw a : Nat} {k l : Int32} {im : Bool} {p : Nat → Prop}
theorem J7.tr (h : J7 p Θ Θ1) (g : J7 p Θ1 Θ2) : J7 p Θ Θ2 := fun z => g (h z)
theorem mk_c (Θ : TrT) (k : Int32) : ((mkT Θ k).1 = Θ ∧ (mkT Θ k).2 = 0) ∨ ((mkT Θ k).1.1 = Θ.1 + 1 ∧ (mkT Θ k).2 = Θ.1 ∧ (∀ x, (mkT Θ k).1.2.2 5 x = if x = Θ.1 then k else Θ.2.2 5 x) ∧ ∀ x, x ≠ Θ.1 → (mkT Θ k).1.2.2 11 x = Θ.2.2 11 x) := by
  unfold mkT
  by_cases z : Θ.1 < 640
  · rw [if_pos z]
    refine Or.inr ⟨rfl, rfl, fun x => ?_, fun x hx => ?_⟩
    · show up2 (up2 (up2 (up2 (up2 (up2 (up2 (up2 (up2 Θ.2.2 5 Θ.1 k) 6 Θ.1 0) 7 Θ.1 0) 8 Θ.1 0) 9 Θ.1 0) 10 Θ.1 0) 11 Θ.1 0) 12 Θ.1 0) 13 Θ.1 (if k = 0 ∨ k = 5 then 1 else 0) 5 x = _
      rw [up2_row (by decide), up2_row (by decide), up2_row (by decide), up2_row (by decide), up2_row (by decide), up2_row (by decide), up2_row (by decide), up2_row (by decide)]
      by_cases y : x = Θ.1
      · rw [if_pos y, y, up2_eq]
      · rw [if_neg y, up2_ne (fun q => y q.2)]
    · show up2 (up2 (up2 (up2 (up2 (up2 (up2 (up2 (up2 Θ.2.2 5 Θ.1 k) 6 Θ.1 0) 7 Θ.1 0) 8 Θ.1 0) 9 Θ.1 0) 10 Θ.1 0) 11 Θ.1 0) 12 Θ.1 0) 13 Θ.1 (if k = 0 ∨ k = 5 then 1 else 0) 11 x = _
      rw [up2_row (by decide), up2_row (by decide), up2_ne (fun q => hx q.2), up2_row (by decide), up2_row (by decide), up2_row (by decide), up2_row (by decide), up2_row (by decide), up2_row (by decide)]
  · rw [if_neg z]; exact Or.inl ⟨rfl, rfl⟩
theorem n7_mk (hk : k ≠ 2) : J7 p Θ (mkT Θ k).1 := fun h => by
  rcases mk_c Θ k with ⟨e, -⟩ | ⟨e1, -, e5, e11⟩
  · rw [e]; exact h
  · refine ⟨by rw [e1]; omega, fun x x1 x2 k2 => ?_⟩
    rw [e5 x] at k2
    by_cases y : x = Θ.1
    · rw [if_pos y] at k2; exact absurd k2 hk
    · rw [if_neg y] at k2
      rw [e11 x y]
      exact h.2 x x1 (by omega) k2
theorem n7_hg : J7 p Θ (hgT Θ a c) := fun h => by
  unfold hgT
  by_cases z : a = 0 ∨ c = 0
  · rw [if_pos z]; exact h
  · rw [if_neg z]
    have e : ∀ q x, q = 5 ∨ q = 11 → hgA Θ.2.2 a c q x = Θ.2.2 q x := by
      intro q x hq
      unfold hgA
      rw [up2_row (by omega)]
      by_cases y : Θ.2.2 6 a = 0
      · rw [if_pos y, up2_row (by omega), up2_row (by omega), up2_row (by omega), up2_row (by omega)]
      · rw [if_neg y, up2_row (by omega), up2_row (by omega), up2_row (by omega), up2_row (by omega)]
    refine ⟨h.1, fun x x1 x2 => ?_⟩
    show hgA Θ.2.2 a c 5 x = 2 → ∃ s, hgA Θ.2.2 a c 11 x = Int32.ofNat s ∧ p s
    rw [e 5 x (Or.inl rfl), e 11 x (Or.inr rfl)]
    exact h.2 x x1 x2
theorem n7_up {q j : Nat} {w : Int32} {n i : Nat} (hq : q ≠ 5) (hq2 : q ≠ 11) {A : Nat → Nat → Int32} : J7 p (n, i, A) (n, i, up2 A q j w) := fun h => by
  refine ⟨h.1, fun x x1 x2 => ?_⟩
  show up2 A q j w 5 x = 2 → ∃ s, up2 A q j w 11 x = Int32.ofNat s ∧ p s
  rw [up2_row (fun e => hq e.symm), up2_row (fun e => hq2 e.symm)]
  exact h.2 x x1 x2
theorem n7_x {j : Nat} {w : Int32} {n i i' : Nat} {A : Nat → Nat → Int32} (hj : A 5 j ≠ 2 ∨ j = 0) : J7 p (n, i, A) (n, i', up2 A 11 j w) := fun h => by
  refine ⟨h.1, fun x x1 x2 => ?_⟩
  show up2 A 11 j w 5 x = 2 → ∃ s, up2 A 11 j w 11 x = Int32.ofNat s ∧ p s
  rw [up2_row (by decide)]
  intro k2
  by_cases y : x = j
  · rw [y] at k2
    rcases hj with z | z
    · exact absurd k2 z
    · omega
  · rw [up2_ne (fun q => y q.2)]
    exact h.2 x x1 x2 k2
theorem n7_em (hv : p v) : J7 p Θ (emT Θ v).1 := fun h => by
  refine ⟨?_, fun x x1 x2 => ?_⟩
  · rcases mk_c Θ 2 with ⟨e, -⟩ | ⟨e1, -⟩
    · show 1 ≤ (mkT Θ 2).1.1
      rw [e]; exact h.1
    · show 1 ≤ (mkT Θ 2).1.1
      omega
  have x2 : x < (mkT Θ 2).1.1 := x2
  show up2 (up2 (mkT Θ 2).1.2.2 11 (mkT Θ 2).2 (Int32.ofNat v)) 13 (mkT Θ 2).2 1 5 x = 2 → ∃ s, up2 (up2 (mkT Θ 2).1.2.2 11 (mkT Θ 2).2 (Int32.ofNat v)) 13 (mkT Θ 2).2 1 11 x = Int32.ofNat s ∧ p s
  rw [up2_row (by decide), up2_row (by decide), up2_row (by decide)]
  intro k2
  by_cases y : x = (mkT Θ 2).2
  · rw [y, up2_eq]; exact ⟨v, rfl, hv⟩
  · rw [up2_ne (fun q => y q.2)]
    rcases mk_c Θ 2 with ⟨e, e0⟩ | ⟨e1, e2, e5, e11⟩
    · rw [e] at k2 x2 ⊢
      exact h.2 x x1 x2 k2
    · rw [e2] at y
      rw [e5 x, if_neg y] at k2
      rw [e11 x y]
      exact h.2 x x1 (by omega) k2
theorem mk_n (hk : k ≠ 2) : (mkT Θ k).1.2.2 5 (mkT Θ k).2 ≠ 2 ∨ (mkT Θ k).2 = 0 := by
  rcases mk_c Θ k with ⟨-, e⟩ | ⟨-, e2, e5, -⟩
  · exact Or.inr e
  · refine Or.inl ?_
    rw [e2, e5, if_pos rfl]; exact hk
theorem n7_wr (hk : k ≠ 2) : J7 p Θ (wrT Θ k c).1 := (n7_mk hk).tr n7_hg
theorem n7_pr (hk : k ≠ 2) : J7 p Θ (prT Θ k c d).1 := ((n7_mk hk).tr n7_hg).tr n7_hg
theorem n7_pa : J7 p Θ (paT Θ).1 := ((n7_mk (k := 1) (by decide)).tr (n7_x (i' := (mkT Θ 1).1.2.1 + 1) (mk_n (Θ := Θ) (k := 1) (by decide)))).tr ((n7_up (q := 12) (by decide) (by decide)).tr (n7_up (q := 13) (by decide) (by decide)))
theorem n7_ex : J7 p Θ (exT Θ v).1 := (n7_mk (k := 3) (by decide)).tr ((n7_x (i' := (mkT Θ 3).1.2.1) (mk_n (Θ := Θ) (k := 3) (by decide))).tr (n7_up (q := 13) (by decide) (by decide)))
theorem n7_ch : J7 p Θ (chT Θ l c d).1 := (n7_pr (by decide)).tr (n7_up (q := 10) (by decide) (by decide))
theorem n7_su : J7 p Θ (suT Θ c l).1 := (n7_wr (by decide)).tr (n7_up (q := 10) (by decide) (by decide))
theorem n7_ha : J7 p Θ (haT Θ).1 := n7_pa.tr (n7_wr (by decide))
theorem n7_st (hv : p v) : J7 p Θ (stT Θ v).1 := (((n7_em hv).tr n7_pa).tr (n7_pr (by decide))).tr (n7_wr (by decide))
theorem n7_w1 : J7 p Θ (wt1 Θ).1 := (n7_pa.tr n7_ex).tr (n7_mk (by decide))
theorem n7_w2 : J7 p Θ (wt2 Θ l).1 := n7_w1.tr n7_ch
theorem n7_w3 : J7 p Θ (wt3 Θ l im).1 := by
  cases im with
  | true => exact n7_w2.tr (n7_pr (by decide))
  | false => exact n7_w2.tr (n7_pr (by decide))
theorem n7_wa : J7 p Θ (waT Θ l im).1 := n7_w3.tr (n7_wr (by decide))
theorem n7_aw : J7 p Θ (awT Θ l im).1 := n7_wa.tr (n7_wr (by decide))
theorem n7_k1 : J7 p Θ (wk1 Θ c).1 := n7_ex.tr (n7_pr (by decide))
theorem n7_k2 : J7 p Θ (wk2 Θ c l im).1 := by unfold wk2; exact n7_k1.tr n7_wa
theorem n7_wk : J7 p Θ (wkT Θ c l im).1 := by unfold wkT wk3; exact (n7_k2.tr (n7_pr (by decide))).tr (n7_wr (by decide))
theorem n7_ab : J7 p Θ (abT Θ c l).1 := by unfold abT; exact n7_su.tr n7_wk
theorem n7_ev : J7 p Θ (evT Θ x aw l).1 := by
  have a4 : J7 p (haT Θ).1 (ev1 Θ x).1 := by unfold ev1; exact n7_pr (by decide)
  have a3 : J7 p (ev1 Θ x).1 (ev2 Θ x l).1 := by unfold ev2; exact n7_ab
  have a2 : J7 p (ev2 Θ x l).1 (ev3 Θ x l).1 := by unfold ev3; exact n7_wr (by decide)
  have a1 : J7 p (ev3 Θ x l).1 (evT Θ x aw l).1 := by unfold evT; exact n7_pr (by decide)
  exact (((n7_ha.tr a4).tr a3).tr a2).tr a1
end
theorem J7.rf {p : Nat → Prop} {Θ : TrT} : J7 p Θ Θ := fun h => h
theorem J7.of {p : Nat → Prop} {Θ Θ1 : TrT} (e : Θ1 = Θ) : J7 p Θ Θ1 := by rw [e]; exact J7.rf
def pE (τ : Td) (s : Nat) : Prop := s < τ.1.length ∧ τ.2.1.getD s 0 ≠ 30
section
variable {b : Nat → Int32} {n m : Nat} {τ : Td} {j i o f1 f2 fo x aw lit y : Nat} {k : Int32} {w : Int64} {K : List KE} {σ σ1 σ2 : PS}
def Ce7 (τ : Td) (σ σ' : PS) : Prop := J7 (pE τ) (trS σ) (trS σ')
theorem Sx.ce7 {r : TrT} (h : Sx σ σ1) (g : J7 (pE τ) (trS σ1) r) : Ce7 τ σ (trP1 σ1 r) := by
  rw [h.2] at g; exact g
theorem br_e7 {j a x : Nat} {g u : Int32} : Ce7 τ σ (brP σ j a x g u) := by
  unfold brP
  split
  · exact n7_hg
  · exact n7_hg
theorem em_pE {r : Nat × PS × Nat} (e : emM b n m τ k j i o σ = .ok r) : pE τ r.2.2 := by
  unfold emM at e
  by_cases h1 : tK b n i = 2
  · rw [if_pos h1] at e
    cases h2 : fd τ.1 (tC b n i) with
    | none => rw [h2] at e; cases e
    | some s =>
      rw [h2] at e
      have e : (if τ.2.1.getD s 0 = 30 then Except.error (4, tP b n i) else (adv' b n i).bind fun i2 => _) = .ok r := e
      by_cases h3 : τ.2.1.getD s 0 = 30
      · rw [if_pos h3] at e; cases e
      rw [if_neg h3] at e
      have hs : pE τ s := ⟨(fd_some h2).1, h3⟩
      obtain ⟨i2, -, e⟩ := bind_ok e
      by_cases h4 : τ.2.2.1.getD s 0 = 0
      · rw [if_pos h4] at e
        by_cases h5 : k = 40 ∧ tK b n i2 = 15
        · rw [if_pos h5] at e; cases e
        · rw [if_neg h5] at e; cases e; exact hs
      rw [if_neg h4] at e
      by_cases h5 : k = 40 ∧ tK b n i2 = 15
      · rw [if_pos h5] at e
        by_cases h6 : o = 15
        · rw [if_pos h6] at e; cases e
        rw [if_neg h6] at e
        obtain ⟨i3, -, e⟩ := bind_ok e
        obtain ⟨y, e1, e⟩ := bind_ok e
        obtain ⟨i4, -, e⟩ := bind_ok e
        cases e
        exact hs
      · rw [if_neg h5] at e; cases e
  · rw [if_neg h1] at e; cases e
theorem lf_e7 {r : Nat × PS × Nat} (e : lfM b n m τ k w j i K σ = .ok r) : Ce7 τ σ r.2.1 := by
  unfold lfM at e
  by_cases k1 : k = 38
  · rw [if_pos k1] at e; cases e; exact (Sx.rf.ce7 n7_pa)
  rw [if_neg k1] at e
  by_cases k2 : k = 39
  · rw [if_pos k2] at e; cases e; exact (Sx.rf.ce7 n7_ha)
  rw [if_neg k2] at e
  by_cases k3 : k = 40
  · rw [if_pos k3] at e
    obtain ⟨y, e1, e⟩ := bind_ok e
    cases e; exact ((em_x e1).ce7 (n7_em (em_pE e1)))
  rw [if_neg k3] at e
  by_cases k4 : k = 41
  · rw [if_pos k4] at e
    obtain ⟨y, e1, e⟩ := bind_ok e
    cases e; exact ((em_x e1).ce7 (n7_st (em_pE e1)))
  rw [if_neg k4] at e
  by_cases k5 : k = 47
  · rw [if_pos k5] at e
    obtain ⟨y, e1, e⟩ := bind_ok e
    cases e; exact ((at_x e1).ce7 n7_aw)
  rw [if_neg k5] at e
  by_cases k6 : k = 57
  · rw [if_pos k6] at e
    by_cases h1 : tK b n i = 2
    · rw [if_pos h1] at e
      cases h2 : trW K (tC b n i) with
      | none => rw [h2] at e; cases e
      | some q =>
        rw [h2] at e
        obtain ⟨i2, -, e⟩ := bind_ok e
        cases e; exact (Sx.ce7 (σ1 := raP σ (up2 σ.1.2.1 60 (40 * m + j) (Int32.ofNat q.2))) ⟨rfl, rfl⟩ n7_ex)
    · rw [if_neg h1] at e; cases e
  rw [if_neg k6] at e
  by_cases k7 : k = 2
  · rw [if_pos k7] at e
    obtain ⟨i2, -, e⟩ := bind_ok e
    obtain ⟨y, e1, e⟩ := bind_ok e
    have q := su_x e1
    cases e; exact (Sx.ce7 (σ := σ) ⟨q.1, q.2⟩ (n7_mk (by decide)))
  rw [if_neg k7] at e
  cases e; exact (Sx.rf.ce7 (n7_mk (by decide)))
theorem hd_e7 {r : Nat × PS × Nat × Bool × Nat × Option Int64} (e : hdM b n m τ k j i K σ = .ok r) : Ce7 τ σ r.2.1 := by
  unfold hdM at e
  by_cases k1 : k = 44
  · rw [if_pos k1] at e
    obtain ⟨y, e1, e⟩ := bind_ok e
    obtain ⟨i2, -, e⟩ := bind_ok e
    have q := co_x e1
    cases e; exact J7.of q.2
  rw [if_neg k1] at e
  by_cases k2 : k = 49
  · rw [if_pos k2] at e; cases e; exact J7.rf
  rw [if_neg k2] at e
  by_cases k3 : k = 50
  · rw [if_pos k3] at e
    obtain ⟨i2, -, e⟩ := bind_ok e
    cases e; exact J7.rf
  rw [if_neg k3] at e
  by_cases k4 : k = 53
  · rw [if_pos k4] at e
    obtain ⟨y, e1, e⟩ := bind_ok e
    obtain ⟨i2, -, e⟩ := bind_ok e
    cases e; exact ((at_x e1).ce7 n7_aw)
  rw [if_neg k4] at e
  by_cases k5 : k = 55
  · rw [if_pos k5] at e
    by_cases h1 : tK b n i = 2
    · rw [if_pos h1] at e
      by_cases h2 : toT (tC b n i) τ = true ∨ (trW K (tC b n i)).isSome = true
      · rw [if_pos h2] at e; cases e
      rw [if_neg h2] at e
      obtain ⟨i2, -, e⟩ := bind_ok e
      obtain ⟨i3, -, e⟩ := bind_ok e
      cases e; exact J7.rf
    · rw [if_neg h1] at e; cases e
  rw [if_neg k5] at e
  by_cases k6 : k = 58
  · rw [if_pos k6] at e
    obtain ⟨y, e1, e⟩ := bind_ok e
    have q := su_x e1
    by_cases h1 : 7 ≤ tK b n y.1 ∧ tK b n y.1 ≤ 12
    · rw [if_pos h1] at e
      obtain ⟨i2, -, e⟩ := bind_ok e
      obtain ⟨z, e2, e⟩ := bind_ok e
      obtain ⟨i3, -, e⟩ := bind_ok e
      have q2 := su_x e2
      have g1 : z.2.1.1 = σ.1.1 := q2.1.trans q.1
      have g2 : trS z.2 = trS σ := q2.2.trans q.2
      cases e; exact J7.of g2
    · rw [if_neg h1] at e; cases e
  rw [if_neg k6] at e
  by_cases k7 : k = 17
  · rw [if_pos k7] at e
    cases e; exact (Sx.rf.ce7 (n7_mk (by decide)))
  rw [if_neg k7] at e
  cases e; exact J7.rf
theorem tl_e7 {r : Nat × PS × Nat} (e : tlM b n m τ k j aw lit x i o σ = .ok r) : Ce7 τ σ r.2.1 := by
  unfold tlM at e
  by_cases k1 : k = 42
  · rw [if_pos k1] at e
    obtain ⟨i2, -, e⟩ := bind_ok e
    cases e
    by_cases h1 : (trS σ).2.2 13 x &&& 1 = 0
    · rw [if_pos h1]; exact (Sx.rf.ce7 (n7_wr (by decide)))
    · rw [if_neg h1]; exact (Sx.ce7 (σ := σ) (σ1 := paP σ j 2 7) ⟨rfl, rfl⟩ (n7_wr (by decide)))
  rw [if_neg k1] at e
  by_cases k2 : k = 49
  · rw [if_pos k2] at e
    obtain ⟨i2, -, e⟩ := bind_ok e
    obtain ⟨y, e1, e⟩ := bind_ok e
    obtain ⟨i3, -, e⟩ := bind_ok e
    have g := at_x e1
    by_cases h1 : y.2.2.2 = true
    · rw [if_pos h1] at e
      have b1 := n7_ab (p := pE τ) (Θ := trS y.2.1) (c := x) (l := Int32.ofNat y.2.2.1)
      have b2 := n7_mk (p := pE τ) (Θ := (abT (trS y.2.1) x (Int32.ofNat y.2.2.1)).1) (k := 0) (by decide)
      have b3 := n7_ch (p := pE τ) (Θ := (mkT (abT (trS y.2.1) x (Int32.ofNat y.2.2.1)).1 0).1) (l := Int32.ofNat y.2.2.1) (c := (mkT (abT (trS y.2.1) x (Int32.ofNat y.2.2.1)).1 0).2) (d := (abT (trS y.2.1) x (Int32.ofNat y.2.2.1)).2)
      cases e
      exact g.ce7 ((b1.tr b2).tr b3)
    · rw [if_neg h1] at e
      cases e
      exact (g.ce7 n7_ab)
  rw [if_neg k2] at e
  by_cases k3 : k = 50
  · rw [if_pos k3] at e
    obtain ⟨i2, -, e⟩ := bind_ok e
    obtain ⟨y, e1, e⟩ := bind_ok e
    obtain ⟨i3, -, e⟩ := bind_ok e
    cases e
    exact ((at_x e1).ce7 n7_wk)
  rw [if_neg k3] at e
  by_cases k4 : k = 52
  · rw [if_pos k4] at e
    obtain ⟨i2, -, e⟩ := bind_ok e
    obtain ⟨y, e1, e⟩ := bind_ok e
    obtain ⟨i3, -, e⟩ := bind_ok e
    cases e
    exact ((co_x e1).ce7 n7_su)
  rw [if_neg k4] at e
  by_cases k5 : k = 53
  · rw [if_pos k5] at e
    obtain ⟨i2, -, e⟩ := bind_ok e
    cases e
    exact (Sx.rf.ce7 n7_ev)
  rw [if_neg k5] at e
  obtain ⟨i2, -, e⟩ := bind_ok e
  cases e
  exact (Sx.rf.ce7 (n7_wr (by decide)))
theorem ch_e7 {r : Nat × PS × Nat} (e : chM b n lit x y i σ = .ok r) : Ce7 τ σ r.2.1 := by
  unfold chM at e
  obtain ⟨i2, -, e⟩ := bind_ok e
  cases e
  exact Sx.rf.ce7 n7_ch
/-- emissions of a reading -/
theorem rp_em : ∀ (g md : Nat) (K : List KE) (i : Nat) (σ : PS) (a1 a2 a3 a4 : Nat) (c1 c2 : Int32) (r : Nat × PS × Nat), md ≤ 3 → rp b n m τ g md K i σ a1 a2 a3 a4 c1 c2 = .ok r → Ce7 τ σ r.2.1 :=
  rp_gen (Ce7 τ) (fun _ q => q) (fun _ _ _ h k q => k (h q)) (fun _ _ _ _ _ _ _ e => lf_e7 e) (fun _ _ _ _ _ _ e => hd_e7 e) (fun _ _ _ _ _ _ _ _ _ e => tl_e7 e) (fun _ _ _ _ _ _ e => ch_e7 e) (fun _ _ hk => n7_mk hk) (fun _ _ _ => n7_hg) (fun _ _ _ q => q) (fun _ _ q => q) (fun _ _ _ _ _ _ q => q) (fun _ _ _ q => q) (fun _ _ _ q => q)
end
/-- what is emitted is a signal, and no input -/
def EmN (τ : Td) (Θ : TrT) : Prop := ∀ x, 1 ≤ x → x < Θ.1 → Θ.2.2 5 x = 2 → ∃ s, s < τ.1.length ∧ Θ.2.2 11 x = Int32.ofNat s ∧ τ.2.1.getD s 0 ≠ 30
theorem EmQ.n {τ : Td} {Θ : TrT} (h : EmQ (pE τ) Θ) : EmN τ Θ := fun x x1 x2 k2 => by
  obtain ⟨s, e, p1, p2⟩ := h.2 x x1 x2 k2
  exact ⟨s, p1, e, p2⟩
