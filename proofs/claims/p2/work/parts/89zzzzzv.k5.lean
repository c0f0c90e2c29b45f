/-! the kind of what is no node stays -/
def K5 (Θ Θ' : TrT) : Prop := 1 ≤ Θ.1 → 1 ≤ Θ'.1 ∧ Θ'.2.2 5 0 = Θ.2.2 5 0
section
variable {Θ Θ1 Θ2 : TrT} {c d v x aw a : Nat} {k l : Int32} {im : Bool}
theorem K5.rf : K5 Θ Θ := fun h => ⟨h, rfl⟩
theorem K5.tr (h : K5 Θ Θ1) (g : K5 Θ1 Θ2) : K5 Θ Θ2 := fun z => ⟨(g (h z).1).1, (g (h z).1).2.trans (h z).2⟩
theorem K5.of (e : Θ1 = Θ) : K5 Θ Θ1 := by rw [e]; exact K5.rf
theorem n5_mk : K5 Θ (mkT Θ k).1 := fun h => by
  unfold mkT
  by_cases z : Θ.1 < 640
  · rw [if_pos z]
    refine ⟨Nat.le_add_left _ _, ?_⟩
    show up2 (up2 (up2 (up2 (up2 (up2 (up2 (up2 (up2 Θ.2.2 5 Θ.1 k) 6 Θ.1 0) 7 Θ.1 0) 8 Θ.1 0) 9 Θ.1 0) 10 Θ.1 0) 11 Θ.1 0) 12 Θ.1 0) 13 Θ.1 (if k = 0 ∨ k = 5 then 1 else 0) 5 0 = _
    rw [up2_row (by decide), up2_row (by decide), up2_row (by decide), up2_row (by decide), up2_row (by decide), up2_row (by decide), up2_row (by decide), up2_row (by decide), up2_ne (fun y => by have := y.2; omega)]
  · rw [if_neg z]; exact ⟨h, rfl⟩
theorem n5_hg : K5 Θ (hgT Θ a c) := fun h => by
  unfold hgT
  by_cases z : a = 0 ∨ c = 0
  · rw [if_pos z]; exact ⟨h, rfl⟩
  · rw [if_neg z]
    refine ⟨h, ?_⟩
    show hgA Θ.2.2 a c 5 0 = _
    unfold hgA
    rw [up2_row (by decide)]
    by_cases y : Θ.2.2 6 a = 0
    · rw [if_pos y, up2_row (by decide), up2_row (by decide), up2_row (by decide), up2_row (by decide)]
    · rw [if_neg y, up2_row (by decide), up2_row (by decide), up2_row (by decide), up2_row (by decide)]
theorem n5_up {q j : Nat} {w : Int32} {n p : Nat} (hq : q ≠ 5) {A : Nat → Nat → Int32} : K5 (n, p, A) (n, p, up2 A q j w) := fun h => ⟨h, by show up2 A q j w 5 0 = A 5 0; rw [up2_row (fun e => hq e.symm)]⟩
theorem n5_p {n p p' : Nat} {A : Nat → Nat → Int32} : K5 (n, p, A) (n, p', A) := fun h => ⟨h, rfl⟩
theorem n5_wr : K5 Θ (wrT Θ k c).1 := n5_mk.tr n5_hg
theorem n5_pr : K5 Θ (prT Θ k c d).1 := (n5_mk.tr n5_hg).tr n5_hg
theorem n5_pa : K5 Θ (paT Θ).1 := (((n5_mk (k := 1)).tr (n5_p (p' := (mkT Θ 1).1.2.1 + 1))).tr (n5_up (q := 11) (by decide))).tr ((n5_up (q := 12) (by decide)).tr (n5_up (q := 13) (by decide)))
theorem n5_em : K5 Θ (emT Θ v).1 := (n5_mk (k := 2)).tr ((n5_up (q := 11) (by decide)).tr (n5_up (q := 13) (by decide)))
theorem n5_ex : K5 Θ (exT Θ v).1 := (n5_mk (k := 3)).tr ((n5_up (q := 11) (by decide)).tr (n5_up (q := 13) (by decide)))
theorem n5_ch : K5 Θ (chT Θ l c d).1 := n5_pr.tr (n5_up (q := 10) (by decide))
theorem n5_su : K5 Θ (suT Θ c l).1 := n5_wr.tr (n5_up (q := 10) (by decide))
theorem n5_ha : K5 Θ (haT Θ).1 := n5_pa.tr n5_wr
theorem n5_st : K5 Θ (stT Θ v).1 := ((n5_em.tr n5_pa).tr n5_pr).tr n5_wr
theorem n5_w1 : K5 Θ (wt1 Θ).1 := (n5_pa.tr n5_ex).tr n5_mk
theorem n5_w2 : K5 Θ (wt2 Θ l).1 := n5_w1.tr n5_ch
theorem n5_w3 : K5 Θ (wt3 Θ l im).1 := by
  cases im with
  | true => exact n5_w2.tr n5_pr
  | false => exact n5_w2.tr n5_pr
theorem n5_wa : K5 Θ (waT Θ l im).1 := n5_w3.tr n5_wr
theorem n5_aw : K5 Θ (awT Θ l im).1 := n5_wa.tr n5_wr
theorem n5_k1 : K5 Θ (wk1 Θ c).1 := n5_ex.tr n5_pr
theorem n5_k2 : K5 Θ (wk2 Θ c l im).1 := by unfold wk2; exact n5_k1.tr n5_wa
theorem n5_wk : K5 Θ (wkT Θ c l im).1 := by unfold wkT wk3; exact (n5_k2.tr n5_pr).tr n5_wr
theorem n5_ab : K5 Θ (abT Θ c l).1 := by unfold abT; exact n5_su.tr n5_wk
theorem n5_ev : K5 Θ (evT Θ x aw l).1 := by
  have a4 : K5 (haT Θ).1 (ev1 Θ x).1 := by unfold ev1; exact n5_pr
  have a3 : K5 (ev1 Θ x).1 (ev2 Θ x l).1 := by unfold ev2; exact n5_ab
  have a2 : K5 (ev2 Θ x l).1 (ev3 Θ x l).1 := by unfold ev3; exact n5_wr
  have a1 : K5 (ev3 Θ x l).1 (evT Θ x aw l).1 := by unfold evT; exact n5_pr
  exact (((n5_ha.tr a4).tr a3).tr a2).tr a1
end
section
variable {b : Nat → Int32} {n m : Nat} {τ : Td} {j i o f1 f2 fo x aw lit y : Nat} {k : Int32} {w : Int64} {K : List KE} {σ σ1 σ2 : PS}
def Ck (σ σ' : PS) : Prop := K5 (trS σ) (trS σ')
theorem Sx.ck {r : TrT} (h : Sx σ σ1) (g : K5 (trS σ1) r) : Ck σ (trP1 σ1 r) := by
  rw [h.2] at g; exact g
theorem br_k {j a x : Nat} {g u : Int32} : Ck σ (brP σ j a x g u) := by
  unfold brP
  split
  · exact n5_hg
  · exact n5_hg
theorem lf_k {r : Nat × PS × Nat} (e : lfM b n m τ k w j i K σ = .ok r) : Ck σ r.2.1 := by
  unfold lfM at e
  by_cases k1 : k = 38
  · rw [if_pos k1] at e; cases e; exact (Sx.rf.ck n5_pa)
  rw [if_neg k1] at e
  by_cases k2 : k = 39
  · rw [if_pos k2] at e; cases e; exact (Sx.rf.ck n5_ha)
  rw [if_neg k2] at e
  by_cases k3 : k = 40
  · rw [if_pos k3] at e
    obtain ⟨y, e1, e⟩ := bind_ok e
    cases e; exact ((em_x e1).ck n5_em)
  rw [if_neg k3] at e
  by_cases k4 : k = 41
  · rw [if_pos k4] at e
    obtain ⟨y, e1, e⟩ := bind_ok e
    cases e; exact ((em_x e1).ck n5_st)
  rw [if_neg k4] at e
  by_cases k5 : k = 47
  · rw [if_pos k5] at e
    obtain ⟨y, e1, e⟩ := bind_ok e
    cases e; exact ((at_x e1).ck n5_aw)
  rw [if_neg k5] at e
  by_cases k6 : k = 57
  · rw [if_pos k6] at e
    by_cases h1 : tK b n i = 2
    · rw [if_pos h1] at e
      cases h2 : trW K (tC b n i) with
      | none => rw [h2] at e; cases e
      | some q =>
        rw [h2] at e
        obtain ⟨i2, -, e⟩ := bind_ok e
        cases e; exact (Sx.ck (σ1 := raP σ (up2 σ.1.2.1 60 (40 * m + j) (Int32.ofNat q.2))) ⟨rfl, rfl⟩ n5_ex)
    · rw [if_neg h1] at e; cases e
  rw [if_neg k6] at e
  by_cases k7 : k = 2
  · rw [if_pos k7] at e
    obtain ⟨i2, -, e⟩ := bind_ok e
    obtain ⟨y, e1, e⟩ := bind_ok e
    have q := su_x e1
    cases e; exact (Sx.ck (σ := σ) ⟨q.1, q.2⟩ n5_mk)
  rw [if_neg k7] at e
  cases e; exact (Sx.rf.ck n5_mk)
theorem hd_k {r : Nat × PS × Nat × Bool × Nat × Option Int64} (e : hdM b n m τ k j i K σ = .ok r) : Ck σ r.2.1 := by
  unfold hdM at e
  by_cases k1 : k = 44
  · rw [if_pos k1] at e
    obtain ⟨y, e1, e⟩ := bind_ok e
    obtain ⟨i2, -, e⟩ := bind_ok e
    have q := co_x e1
    cases e; exact K5.of q.2
  rw [if_neg k1] at e
  by_cases k2 : k = 49
  · rw [if_pos k2] at e; cases e; exact K5.rf
  rw [if_neg k2] at e
  by_cases k3 : k = 50
  · rw [if_pos k3] at e
    obtain ⟨i2, -, e⟩ := bind_ok e
    cases e; exact K5.rf
  rw [if_neg k3] at e
  by_cases k4 : k = 53
  · rw [if_pos k4] at e
    obtain ⟨y, e1, e⟩ := bind_ok e
    obtain ⟨i2, -, e⟩ := bind_ok e
    cases e; exact ((at_x e1).ck n5_aw)
  rw [if_neg k4] at e
  by_cases k5 : k = 55
  · rw [if_pos k5] at e
    by_cases h1 : tK b n i = 2
    · rw [if_pos h1] at e
      by_cases h2 : toT (tC b n i) τ = true ∨ (trW K (tC b n i)).isSome = true
      · rw [if_pos h2] at e; cases e
      rw [if_neg h2] at e
      obtain ⟨i2, -, e⟩ := bind_ok e
      obtain ⟨i3, -, e⟩ := bind_ok e
      cases e; exact K5.rf
    · rw [if_neg h1] at e; cases e
  rw [if_neg k5] at e
  by_cases k6 : k = 58
  · rw [if_pos k6] at e
    obtain ⟨y, e1, e⟩ := bind_ok e
    have q := su_x e1
    by_cases h1 : 7 ≤ tK b n y.1 ∧ tK b n y.1 ≤ 12
    · rw [if_pos h1] at e
      obtain ⟨i2, -, e⟩ := bind_ok e
      obtain ⟨z, e2, e⟩ := bind_ok e
      obtain ⟨i3, -, e⟩ := bind_ok e
      have q2 := su_x e2
      have g1 : z.2.1.1 = σ.1.1 := q2.1.trans q.1
      have g2 : trS z.2 = trS σ := q2.2.trans q.2
      cases e; exact K5.of g2
    · rw [if_neg h1] at e; cases e
  rw [if_neg k6] at e
  by_cases k7 : k = 17
  · rw [if_pos k7] at e
    cases e; exact (Sx.rf.ck n5_mk)
  rw [if_neg k7] at e
  cases e; exact K5.rf
theorem tl_k {r : Nat × PS × Nat} (e : tlM b n m τ k j aw lit x i o σ = .ok r) : Ck σ r.2.1 := by
  unfold tlM at e
  by_cases k1 : k = 42
  · rw [if_pos k1] at e
    obtain ⟨i2, -, e⟩ := bind_ok e
    cases e
    by_cases h1 : (trS σ).2.2 13 x &&& 1 = 0
    · rw [if_pos h1]; exact (Sx.rf.ck n5_wr)
    · rw [if_neg h1]; exact (Sx.ck (σ := σ) (σ1 := paP σ j 2 7) ⟨rfl, rfl⟩ n5_wr)
  rw [if_neg k1] at e
  by_cases k2 : k = 49
  · rw [if_pos k2] at e
    obtain ⟨i2, -, e⟩ := bind_ok e
    obtain ⟨y, e1, e⟩ := bind_ok e
    obtain ⟨i3, -, e⟩ := bind_ok e
    have g := at_x e1
    by_cases h1 : y.2.2.2 = true
    · rw [if_pos h1] at e
      have b1 := n5_ab (Θ := trS y.2.1) (c := x) (l := Int32.ofNat y.2.2.1)
      have b2 := n5_mk (Θ := (abT (trS y.2.1) x (Int32.ofNat y.2.2.1)).1) (k := 0)
      have b3 := n5_ch (Θ := (mkT (abT (trS y.2.1) x (Int32.ofNat y.2.2.1)).1 0).1) (l := Int32.ofNat y.2.2.1) (c := (mkT (abT (trS y.2.1) x (Int32.ofNat y.2.2.1)).1 0).2) (d := (abT (trS y.2.1) x (Int32.ofNat y.2.2.1)).2)
      cases e
      exact g.ck ((b1.tr b2).tr b3)
    · rw [if_neg h1] at e
      cases e
      exact (g.ck n5_ab)
  rw [if_neg k2] at e
  by_cases k3 : k = 50
  · rw [if_pos k3] at e
    obtain ⟨i2, -, e⟩ := bind_ok e
    obtain ⟨y, e1, e⟩ := bind_ok e
    obtain ⟨i3, -, e⟩ := bind_ok e
    cases e
    exact ((at_x e1).ck n5_wk)
  rw [if_neg k3] at e
  by_cases k4 : k = 52
  · rw [if_pos k4] at e
    obtain ⟨i2, -, e⟩ := bind_ok e
    obtain ⟨y, e1, e⟩ := bind_ok e
    obtain ⟨i3, -, e⟩ := bind_ok e
    cases e
    exact ((co_x e1).ck n5_su)
  rw [if_neg k4] at e
  by_cases k5 : k = 53
  · rw [if_pos k5] at e
    obtain ⟨i2, -, e⟩ := bind_ok e
    cases e
    exact (Sx.rf.ck n5_ev)
  rw [if_neg k5] at e
  obtain ⟨i2, -, e⟩ := bind_ok e
  cases e
  exact (Sx.rf.ck n5_wr)
theorem ch_k {r : Nat × PS × Nat} (e : chM b n lit x y i σ = .ok r) : Ck σ r.2.1 := by
  unfold chM at e
  obtain ⟨i2, -, e⟩ := bind_ok e
  cases e
  exact Sx.rf.ck n5_ch
theorem rp_k5 : ∀ (g md : Nat) (K : List KE) (i : Nat) (σ : PS) (a1 a2 a3 a4 : Nat) (c1 c2 : Int32) (r : Nat × PS × Nat), md ≤ 3 → rp b n m τ g md K i σ a1 a2 a3 a4 c1 c2 = .ok r → K5 (trS σ) (trS r.2.1) := by
  intro g
  induction g with
  | zero => intro md K i σ a1 a2 a3 a4 c1 c2 r _ e; unfold rp at e; cases e
  | succ g ih =>
    intro md K i σ a1 a2 a3 a4 c1 c2 r hm e
    by_cases m2 : md = 2
    · subst m2
      rw [rp_bd] at e
      obtain ⟨u0, -, e⟩ := bind_ok e
      obtain ⟨i1, -, e⟩ := bind_ok e
      obtain ⟨u, eb, e⟩ := bind_ok e
      cases e
      show K5 (trS σ) (trS u.2.1)
      generalize tK b n i = k at eb
      generalize tC b n i = w at eb
      generalize npS σ = j at eb
      have q1 := (pb_bg (m := m) (σ := σ) (k := k) (pl := tP b n i) (q := sqK K) (d := K.length) (wh := whK k w τ)).2
      generalize bgP m k (tP b n i) (sqK K) K.length (whK k w τ) σ = s0 at eb q1
      rw [← q1]
      unfold bdM at eb
      by_cases ko : opnK k = false
      · rw [if_pos ko] at eb
        exact lf_k eb
      rw [if_neg ko] at eb
      obtain ⟨h, eh, eb⟩ := bind_ok eb
      have q2 : K5 (trS s0) (trS (rwP (40 * m + j) none h.2.1)) := hd_k eh
      by_cases k17 : k = 17
      · rw [if_pos k17] at eb
        obtain ⟨q, e1, eb⟩ := bind_ok eb
        cases eb
        exact q2.tr (ih 3 _ _ _ _ _ _ _ _ _ q (by decide) e1)
      rw [if_neg k17] at eb
      obtain ⟨q, e1, eb⟩ := bind_ok eb
      have hq := q2.tr (ih 0 _ _ _ _ _ _ _ _ _ q (by decide) e1)
      by_cases k4 : k = 44 ∨ k = 58
      · rw [if_pos k4] at eb
        by_cases k46 : tK b n q.1 = 46
        · rw [if_pos k46] at eb
          obtain ⟨i2, -, eb⟩ := bind_ok eb
          obtain ⟨t, e2, eb⟩ := bind_ok eb
          have ht : K5 (trS q.2.1) (trS t.2.1) := by
            have q9 := ih 0 _ _ _ _ _ _ _ _ _ t (by decide) e2
            exact q9
          exact (hq.tr ht).tr (ch_k eb)
        · rw [if_neg k46] at eb
          have c1 : Ck q.2.1 (trP1 q.2.1 (mkT (trS q.2.1) 0).1) := Sx.rf.ck n5_mk
          exact (hq.tr c1).tr (ch_k eb)
      rw [if_neg k4] at eb
      exact hq.tr (tl_k eb)
    by_cases m0 : md = 0
    · subst m0
      unfold rp at e
      rw [if_pos rfl] at e
      obtain ⟨q, e1, e⟩ := bind_ok e
      have c1 : Ck σ (trP1 σ (mkT (trS σ) 5).1) := Sx.rf.ck n5_mk
      have hq := K5.tr c1 (ih 2 _ _ _ _ _ _ _ _ _ q (by decide) e1)
      exact (hq.tr n5_hg).tr (ih 1 _ _ _ _ _ _ _ _ _ r (by decide) e)
    by_cases m1 : md = 1
    · subst m1
      unfold rp at e
      rw [if_neg (by decide), if_pos rfl] at e
      by_cases h13 : tK b n i = 13
      · rw [if_pos h13] at e
        obtain ⟨j, -, e⟩ := bind_ok e
        obtain ⟨q, e1, e⟩ := bind_ok e
        have hq := ih 2 _ _ _ _ _ _ _ _ _ q (by decide) e1
        exact (hq.tr n5_hg).tr (ih 1 _ _ _ _ _ _ _ _ _ r (by decide) e)
      · rw [if_neg h13] at e; cases e; exact K5.rf
    · have m3 : md = 3 := by omega
      subst m3
      unfold rp at e
      rw [if_neg m0, if_neg m1, if_neg m2] at e
      obtain ⟨q, e1, e⟩ := bind_ok e
      have hq := ih 0 _ _ _ _ _ _ _ _ _ q (by decide) e1
      have bn : K5 (trS q.2.1) (trS (brP q.2.1 a2 a1 q.2.2 c1 c2)) := br_k (σ := q.2.1) (j := a2) (a := a1) (x := q.2.2) (g := c1) (u := c2)
      by_cases h6 : tK b n q.1 = 6
      · rw [if_pos h6] at e
        by_cases h8 : a4 = 8
        · rw [if_pos h8] at e; cases e
        rw [if_neg h8] at e
        obtain ⟨j, -, e⟩ := bind_ok e
        have h3 : K5 (trS (brP q.2.1 a2 a1 q.2.2 c1 c2)) (trS r.2.1) := by
          have q9 := ih 3 _ _ _ _ _ _ _ _ _ r (by decide) e
          exact q9
        exact (hq.tr bn).tr h3
      · rw [if_neg h6] at e
        obtain ⟨j, -, e⟩ := bind_ok e
        cases e
        exact hq.tr bn
end
