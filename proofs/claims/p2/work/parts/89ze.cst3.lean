/-! the class reads parts: sums, conditions, ifs, new parts in its state -/
theorem sq_1 {x : Nat} : (x + 1) * (x + 1) = x * x + 2 * x + 1 := by simp only [Nat.add_mul, Nat.mul_add, Nat.mul_one, Nat.one_mul]; omega
section
variable {n0 : Nat} {τ : Td} {M0 M M' : Mem} {γ : ClT} {cn cn' : Nat → Nat} {ps : List Nat} {tl tl' : List Int64} {lc rc cc pb ib lc' rc' cc' pb' ib' : Nat}
theorem CQh.sum {l' : List Int32} (h : CQh n0 τ M0 M γ cn ps tl lc rc cc pb ib) (F : Fix M) (k : SFm n0 M M' cc γ.2.2.2.2.2.1 cc' l') (hP : SumP M' (n0 + 22) cc' l') (hc : cc' = n0 + 23 ∨ n0 + 25 ≤ cc') : CQh n0 τ M0 M' (γ.1, γ.2.1, γ.2.2.1, γ.2.2.2.1, γ.2.2.2.2.1, l', γ.2.2.2.2.2.2.1, mI M' 14 6) cn ps tl lc rc cc' pb ib := by
  obtain ⟨q1, q2, q3, q4, q5, ol, or, oc, o0, o8, o22, -⟩ := h.lim
  obtain ⟨k1, k2, k3, k4, k5, k6, k7, k8, k9, k10, k11⟩ := k
  obtain ⟨h1, ⟨h2, h2b, h2c, h2d⟩, ⟨t1, t2, t3, t4, t5⟩, h4, ⟨r1, r2, r3, r4, r5, r6⟩, h6, h7, h8, h9⟩ := h
  have o14 : mK M 14 = 6 := (ok14 F).2
  have o15 : mK M 15 = 9 := (ok15 F).2
  have row : ∀ c, c < mN M → c ≠ 14 → c ≠ 15 → c ≠ n0 + 22 → c ≠ cc → sameRow M M' c := fun c z z1 z2 z3 z4 => k1.2 c z (by omega)
  have r0 := row n0 (by omega) (by omega) (by omega) (by omega) (by omega)
  have r8 := row (n0 + 8) (by omega) (by omega) (by omega) (by omega) (by omega)
  have r4' := row 4 (by omega) (by omega) (by omega) (by omega) (by omega)
  have r20 := row 20 (by omega) (by omega) (by omega) (by omega) (by omega)
  have el := (k1.1.2.2 _ ol.1).2
  refine ⟨h1.fr k1.1 (fun c z => ?_) k3, ⟨hP, hc, ?_, ?_⟩, ⟨by rw [r4'.1]; exact t1, by rw [r4'.1]; exact t2, t3, fun c z1 z2 => by rw [(row c (by omega) (by omega) (by omega) (by omega) (by omega)).2.2.2.1]; exact t4 c z1 z2, t5⟩, h4.fr k1 (fun c z => ?_), ⟨by rw [k2 3 (by decide), r20.2.2.2.2.1]; exact r1, by rw [k2 4 (by decide)]; exact r2, by rw [k2 5 (by decide)]; exact r3, rfl, by rw [r0.1]; exact r5, by rw [r0.1]; exact r6⟩, h6.tr ⟨k1.more (fun c _ z => by omega), fun f _ _ => by rw [r0.1], r0.2.2.1, fun f _ => by rw [r8.1], fun f _ _ => by rw [r8.2.2.1], k6, k7, k3⟩, ⟨?_, ?_, h7.2.2⟩, by rw [r0.2.2.1, r8.2.2.1]; exact h8, h9⟩
  · rcases z with z | z | z | z | z | z
    · exact row c (by omega) (by omega) (by omega) (by omega) (by omega)
    · exact row c (by omega) (by omega) (by omega) (by omega) (by omega)
    · exact row c (by omega) (by omega) (by omega) (by omega) (by omega)
    · exact row c (by omega) (by omega) (by omega) (by omega) (by omega)
    · rw [z]; exact row lc ol.1 (by omega) (by omega) (by omega) (fun y => h2c y.symm)
    · rw [z]; exact row rc or.1 (by omega) (by omega) (by omega) (fun y => h2d y.symm)
  · have := ol.1; omega
  · have := or.1; omega
  · rcases z with z | z | z | z
    · rw [z, o14]; decide
    · rw [z, o15]; decide
    · rw [z, o22.2]; decide
    · rw [z, oc.2]; decide
  · have := h7.1
    show mN M' ≤ mN M0 + 2 * γ.2.2.1.length + l'.length + 3 * ps.length + 4 * γ.2.2.2.2.1.length
    omega
  · have := h7.2.1
    show mS M' ≤ mS M0 + 4 * mL M' lc + 2 * mL M' cc' + (12 * γ.2.2.2.2.1.length + γ.2.2.2.2.1.length * γ.2.2.2.2.1.length) + (24 * ps.length + ps.length * ps.length)
    rw [el]
    omega
theorem CQh.cond {N' : Nt} {bf' : Nat → Nat} (h : CQh n0 τ M0 M γ cn ps tl lc rc cc pb ib) (F : Fix M) (k : CdF n0 M M' lc rc lc' rc' γ.2.2.1 N') (hC : CB n0 τ.1 τ.2.1 τ.2.2.1 τ.2.2.2.1 M' N' lc' rc' (sgT τ.1.length) bf') : CQh n0 τ M0 M' (γ.1, γ.2.1, N', bf', γ.2.2.2.2) cn ps tl lc' rc' cc pb ib := by
  obtain ⟨q1, q2, q3, q4, q5, ol, or, oc, o0, o8, o22, -⟩ := h.lim
  obtain ⟨k1, k2, k3, k4, k5, k6, k7, k8, k9, k10⟩ := k
  have o16 : ok M (n0 + 16) 21 := h.1.2.2.2.2.2.2.2.2.1.1
  obtain ⟨h1, ⟨h2, h2b, h2c, h2d⟩, ⟨t1, t2, t3, t4, t5⟩, h4, ⟨r1, r2, r3, r4, r5, r6⟩, h6, h7, h8, h9⟩ := h
  have o15 : mK M 15 = 9 := (ok15 F).2
  have row : ∀ c, c < mN M → c ≠ 15 → c ≠ n0 + 8 → c ≠ n0 + 16 → c ≠ lc → c ≠ rc → sameRow M M' c := fun c z z1 z2 z3 z4 z5 => k1.2 c z (by omega)
  have r0 := row n0 (by omega) (by omega) (by omega) (by omega) (by omega) (by omega)
  have r22 := row (n0 + 22) (by omega) (by omega) (by omega) (by omega) (by omega) (by omega)
  have r4' := row 4 (by omega) (by omega) (by omega) (by omega) (by omega) (by omega)
  have r14 := row 14 (by omega) (by omega) (by omega) (by omega) (by omega) (by omega)
  have r20 := row 20 (by omega) (by omega) (by omega) (by omega) (by omega) (by omega)
  have rcc := row cc oc.1 (by omega) (by omega) (by omega) h2c h2d
  have ec := (k1.1.2.2 _ oc.1).2
  refine ⟨hC, ⟨h2.fr k1.1 r22 rcc, h2b, ?_, ?_⟩, ⟨by rw [r4'.1]; exact t1, by rw [r4'.1]; exact t2, t3, fun c z1 z2 => by rw [(row c (by omega) (by omega) (by omega) (by omega) (by omega) (by omega)).2.2.2.1]; exact t4 c z1 z2, t5⟩, h4.fr k1 (fun c z => ?_), ⟨by rw [r14.1, r20.2.2.2.2.1]; exact r1, by rw [r14.1]; exact r2, by rw [r14.1]; exact r3, by rw [r14.1]; exact r4, by rw [r0.1]; exact r5, by rw [r0.1]; exact r6⟩, h6.tr ⟨k1.more (fun c _ z => by omega), fun f _ _ => by rw [r0.1], r0.2.2.1, k3, k4, fun f _ => by rw [r22.1], fun f _ => by rw [r22.2.2.1], r14.2.2.1⟩, ⟨?_, ?_, h7.2.2⟩, by rw [r0.2.2.1, k4 7 (by decide) (by decide)]; exact h8, h9⟩
  · have := oc.1; omega
  · have := oc.1; omega
  · rcases z with z | z | z | z | z
    · rw [z, o15]; decide
    · rw [z, o8.2]; decide
    · rw [z, o16.2]; decide
    · rw [z, ol.2]; decide
    · rw [z, or.2]; decide
  · have := h7.1
    show mN M' ≤ mN M0 + 2 * N'.length + γ.2.2.2.2.2.1.length + 3 * ps.length + 4 * γ.2.2.2.2.1.length
    omega
  · have := h7.2.1
    show mS M' ≤ mS M0 + 4 * mL M' lc' + 2 * mL M' cc + (12 * γ.2.2.2.2.1.length + γ.2.2.2.2.1.length * γ.2.2.2.2.1.length) + (24 * ps.length + ps.length * ps.length)
    rw [ec]
    omega
theorem alp_fr3 {a b ci : Nat} {l : List Nat} {S : Nat → Prop} (hA : ALp M a b ci l) (k : fr S M M') (na : ¬ S a) (nb : ok M b 24 → ¬ S b) : ALp M' a b ci l := by
  obtain ⟨ha, hs, hl, hel, hr, hb⟩ := hA
  have ra := k.2 a ha.1 na
  refine ⟨ok_E ha k.1, by rw [ra.1]; exact hs, hl, fun v hv => (hel v hv).e k.1, by rw [ra.2.2.1]; exact hr, ?_⟩
  rcases hb with q | ⟨ob, hlen, hpos, hmx, hg⟩
  · exact Or.inl q
  · have e := (k.1.2.2 b ob.1).2
    refine Or.inr ⟨ok_E ob k.1, by rw [e]; exact hlen, by rw [e]; exact hpos, by rw [e]; exact hmx, fun i hi => ?_⟩
    rw [(k.2 b ob.1 (nb ob)).2.2.2.2.2]
    exact hg i hi
theorem ali_fr3 {a b : Nat} {xs : List Int32} {S : Nat → Prop} (hA : ALi M a b xs) (k : fr S M M') (na : ¬ S a) (nb : ok M b 24 → ¬ S b) (h0 : ∀ c, c < mN M → S c → mK M c ≠ 0) : ALi M' a b xs := by
  obtain ⟨l, h1, h2, h3⟩ := hA
  exact ⟨l, alp_fr3 h1 k na nb, h2, fun i hi => (h3 i hi).fr k h0⟩
theorem CQh.big (h : CQh n0 τ M0 M γ cn ps tl lc rc cc pb ib) (hN : γ.2.2.1.length ≤ 100000) (hl : γ.2.2.2.2.2.1.length ≤ 100000) : mN M < mBig := by
  obtain ⟨-, -, -, -, -, -, ⟨h7, -, h7b⟩, -, ⟨a1, a2, a3⟩⟩ := h
  unfold mBig
  omega
/-- the literal of an if -/
theorem CQh.aif (h : CQh n0 τ M0 M γ cn ps tl lc rc cc pb ib) (hN : γ.2.2.1.length ≤ 90000) (hl : γ.2.2.2.2.2.1.length ≤ 90000) (hx : γ.2.2.2.2.1.length < 80) (k : AiF M M' (n0 + 8) (n0 + 15) ib lc rc lc' rc' ib' γ.2.2.2.2.1.length) (hC : CirP M' (n0 + 8) lc' rc' (frL γ.2.2.1).1) (hA : ALi M' (n0 + 15) ib' (γ.2.2.2.2.1 ++ [Int32.ofNat (2 * γ.2.2.1.length)])) : CQh n0 τ M0 M' (γ.1, γ.2.1, (frL γ.2.2.1).1, γ.2.2.2.1, γ.2.2.2.2.1 ++ [Int32.ofNat (2 * γ.2.2.1.length)], γ.2.2.2.2.2) cn ps tl lc' rc' cc pb ib' := by
  have big := h.big (by omega) (by omega)
  obtain ⟨q1, q2, q3, q4, q5, ol, or, oc, o0, o8, o22, -⟩ := h.lim
  obtain ⟨h1, ⟨h2, h2b, h2c, h2d⟩, ht, hL, hr, h6, h7, h8, h9⟩ := h
  have o15 : ok M (n0 + 15) 1 := by obtain ⟨l, q, -⟩ := hL.2.1; exact q.1
  have il : ib = mBig + 5 ∨ n0 + 25 ≤ ib := hL.2.2.2.1
  have nlc : ∀ c, c < n0 + 25 → c ≠ n0 + 9 → c ≠ lc := fun c _ _ => by omega
  have nrc : ∀ c, c < n0 + 25 → c ≠ n0 + 10 → c ≠ rc := fun c _ _ => by omega
  have nib : ∀ c, c < n0 + 25 → c ≠ ib := fun c _ => by omega
  have ncc : cc ≠ n0 + 8 ∧ cc ≠ n0 + 15 := by omega
  have lim2 : ∀ c, (c = n0 + 8 ∨ c = lc ∨ c = rc ∨ c = n0 + 15 ∨ (c = ib ∧ mK M c = 24)) → c < mN M → (4 ≤ c ∧ c ≤ 15) ∨ c = 20 ∨ c = n0 ∨ c = n0 + 7 ∨ c = n0 + 8 ∨ c = n0 + 9 ∨ c = n0 + 10 ∨ c = n0 + 15 ∨ c = n0 + 16 ∨ c = n0 + 22 ∨ c = n0 + 23 ∨ n0 + 25 ≤ c := by
    intro c z zl
    rcases z with z | z | z | z | z
    · omega
    · omega
    · omega
    · omega
    · omega
  clear il q3 q4 q5
  have k1 := k.1
  have row : ∀ c, c < mN M → c ≠ n0 + 8 → c ≠ lc → c ≠ rc → c ≠ n0 + 15 → ¬ (mK M c = 24) → sameRow M M' c := fun c z z1 z2 z3 z4 z5 => k1.2 c z (by rintro (y | y | y | y | y) <;> first | exact z1 y | exact z2 y | exact z3 y | exact z4 y | exact z5 y.2)
  have rlo : ∀ c, c < n0 + 25 → c ≠ n0 + 8 → c ≠ n0 + 9 → c ≠ n0 + 10 → c ≠ n0 + 15 → sameRow M M' c := fun c z z1 z2 z3 z4 => k1.2 c (by omega) (by rintro (y | y | y | y | y) <;> first | exact z1 y | exact nlc c z z2 y | exact nrc c z z3 y | exact z4 y | exact nib c z y.1)
  have r0 := rlo n0 (by omega) (by omega) (by omega) (by omega) (by omega)
  have r22 := rlo (n0 + 22) (by omega) (by omega) (by omega) (by omega) (by omega)
  have r4' := rlo 4 (by omega) (by omega) (by omega) (by omega) (by omega)
  have r14 := rlo 14 (by omega) (by omega) (by omega) (by omega) (by omega)
  have r20 := rlo 20 (by omega) (by omega) (by omega) (by omega) (by omega)
  have r16 := rlo (n0 + 16) (by omega) (by omega) (by omega) (by omega) (by omega)
  have rs20 := rlo (n0 + 20) (by omega) (by omega) (by omega) (by omega) (by omega)
  have rcc := row cc oc.1 ncc.1 h2c h2d ncc.2 (by rw [oc.2]; decide)
  have ec := (k1.1.2.2 _ oc.1).2
  have eL : (frL γ.2.2.1).1.length = γ.2.2.1.length + 1 := by simp [frL]
  have hE := k1.1
  have hE1 := hE.1
  obtain ⟨t1, t2, t3, t4, t5⟩ := ht
  obtain ⟨r1, r2, r3, r4, r5, r6⟩ := hr
  obtain ⟨e1, b1, b2, b3, b4, b5, ⟨s1, s2, s3⟩, b6, ⟨u1, u2, u3⟩, b7, b8, b9⟩ := h1
  have s3' : ∀ q, q < 16 → mAI M' (n0 + 20) q = Int32.ofNat (sgT τ.1.length q) ∧ sgT τ.1.length q < 2 * (frL γ.2.2.1).1.length := fun q hq => by
    rw [rs20.2.2.2.1, eL]
    have := s3 q hq
    exact ⟨this.1, by omega⟩
  have u3' : ∀ q, q < 16 → mAI M' (n0 + 16) q = Int32.ofNat (γ.2.2.2.1 q) ∧ γ.2.2.2.1 q < 2 * (frL γ.2.2.1).1.length := fun q hq => by
    rw [r16.2.2.2.1, eL]
    have := u3 q hq
    exact ⟨this.1, by omega⟩
  have cb : CB n0 τ.1 τ.2.1 τ.2.2.1 τ.2.2.2.1 M' (frL γ.2.2.1).1 lc' rc' (sgT τ.1.length) γ.2.2.2.1 := ⟨e1.fr hE (fun a z1 z2 => rlo a (by omega) (by omega) (by omega) (by omega) (by omega)), hC, by have := k.2.2.2.2.2.2.1; omega, by have := k.2.2.2.2.2.2.2.1; omega, by rw [r0.2.2.1]; exact b4, by rw [k.2.2.1 13 (by decide) (by decide)]; exact b5, ⟨ok_E s1 hE, (hE.2.2 _ s1.1).2.trans s2, s3'⟩, by rw [k.2.2.1 8 (by decide) (by decide)]; exact b6, ⟨ok_E u1 hE, (hE.2.2 _ u1.1).2.trans u2, u3'⟩, by rw [r14.2.2.1]; exact b7, b8, Nat.le_trans b9 hE1⟩
  have sp : SumP M' (n0 + 22) cc γ.2.2.2.2.2.1 := h2.fr hE r22 rcc
  have tp : TrP M' γ.2.1 := ⟨by rw [r4'.1]; exact t1, by rw [r4'.1]; exact t2, t3, fun c z1 z2 => by rw [(rlo c (by omega) (by omega) (by omega) (by omega) (by omega)).2.2.2.1]; exact t4 c z1 z2, t5⟩
  have rdq : RdQ n0 M' γ.2.2.2.2.2.2.1 γ.2.2.2.2.2.2.2 cn tl := ⟨by rw [r14.1, r20.2.2.2.2.1]; exact r1, by rw [r14.1]; exact r2, by rw [r14.1]; exact r3, by rw [r14.1]; exact r4, by rw [r0.1]; exact r5, by rw [r0.1]; exact r6⟩
  have frq : FrQ n0 M M' := ⟨k1.more (fun c hc z => lim2 c z hc), fun f _ _ => by rw [r0.1], r0.2.2.1, k.2.1, k.2.2.1, fun f _ => by rw [r22.1], fun f _ => by rw [r22.2.2.1], r14.2.2.1⟩
  have lx : (γ.2.2.2.2.1 ++ [Int32.ofNat (2 * γ.2.2.1.length)]).length = γ.2.2.2.2.1.length + 1 := by rw [List.length_append]; rfl
  have nc1 : cc ≠ lc' := by
    rcases k.2.2.2.2.2.2.1 with z | z
    · rw [z]; exact h2c
    · intro y; have := oc.1; omega
  have nc2 : cc ≠ rc' := by
    rcases k.2.2.2.2.2.2.2.1 with z | z
    · rw [z]; exact h2d
    · intro y; have := oc.1; omega
  have kk : ∀ c q, mK M c = q → (c = n0 + 8 ∨ c = lc ∨ c = rc ∨ c = n0 + 15 ∨ (c = ib ∧ mK M c = 24)) → q = 2 ∨ q = 21 ∨ q = 1 ∨ (c = ib ∧ q = 24) := by
    intro c q e z
    rcases z with z | z | z | z | z
    · rw [z, o8.2] at e; exact Or.inl e.symm
    · rw [z, ol.2] at e; exact Or.inr (Or.inl e.symm)
    · rw [z, or.2] at e; exact Or.inr (Or.inl e.symm)
    · rw [z, o15.2] at e; exact Or.inr (Or.inr (Or.inl e.symm))
    · exact Or.inr (Or.inr (Or.inr ⟨z.1, by rw [← e]; exact z.2⟩))
  obtain ⟨l1, l2, l3, l4, l5, l6⟩ := hL
  have lp : LPt n0 M' ps γ.1 (γ.2.2.2.2.1 ++ [Int32.ofNat (2 * γ.2.2.1.length)]) pb ib' := by
    refine ⟨alp_fr3 l1 k1 ?_ ?_, hA, l3, ?_, ?_, l6.fr k1 ?_⟩
    · rintro (y | y | y | y | y)
      · omega
      · exact nlc _ (by omega) (by omega) y
      · exact nrc _ (by omega) (by omega) y
      · omega
      · exact nib _ (by omega) y.1
    · intro o24 y
      have kb := o24.1
      rcases kk _ _ o24.2 y with w | w | w | w
      · exact absurd w (by decide)
      · exact absurd w (by decide)
      · exact absurd w (by decide)
      · have := l5 w.1
        clear l3 l4
        omega
    · rcases k.2.2.2.2.2.2.2.2 with z | z
      · rw [z]; exact l4
      · right; clear l3 l4; omega
    · intro y
      rcases k.2.2.2.2.2.2.2.2 with z | z
      · exact l5 (y.trans z)
      · obtain ⟨-, -, -, -, -, hb⟩ := l1
        rcases hb with w | w
        · exact w.1
        · have := w.1.1; clear l3 l4; omega
    · intro c y e
      rcases kk _ _ e y with w | w | w | w
      · exact absurd w (by decide)
      · exact absurd w (by decide)
      · exact absurd w (by decide)
      · exact absurd w.2 (by decide)
  clear l3 l4
  refine ⟨cb, ⟨sp, h2b, nc1, nc2⟩, tp, lp, rdq, h6.tr frq, ⟨?_, ?_, h7.2.2⟩, by rw [r0.2.2.1, k.2.2.1 7 (by decide) (by decide)]; exact h8, h9.1, h9.2.1, by rw [lx]; exact hx⟩
  · have z1 := h7.1
    have z2 := k.2.2.2.2.1
    show mN M' ≤ mN M0 + 2 * (frL γ.2.2.1).1.length + γ.2.2.2.2.2.1.length + 3 * ps.length + 4 * (γ.2.2.2.2.1 ++ [Int32.ofNat (2 * γ.2.2.1.length)]).length
    rw [eL, lx]
    clear b2 b3 h2b
    omega
  · have z1 := h7.2.1
    have z2 := k.2.2.2.2.2.1
    show mS M' ≤ mS M0 + 4 * mL M' lc' + 2 * mL M' cc + (12 * (γ.2.2.2.2.1 ++ [Int32.ofNat (2 * γ.2.2.1.length)]).length + (γ.2.2.2.2.1 ++ [Int32.ofNat (2 * γ.2.2.1.length)]).length * (γ.2.2.2.2.1 ++ [Int32.ofNat (2 * γ.2.2.1.length)]).length) + (24 * ps.length + ps.length * ps.length)
    rw [ec, lx, sq_1]
    clear b2 b3 h2b
    omega
end
