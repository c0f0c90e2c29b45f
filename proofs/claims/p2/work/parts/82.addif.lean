/-! lists under frames; the literal of an if -/
theorem ALp.fr {M M' : Mem} {a b ci : Nat} {l : List Nat} {S : Nat → Prop} (hA : ALp M a b ci l) (k : fr S M M') (na : ¬ S a) (nb : mK M b = 24 → ¬ S b) : ALp M' a b ci l := by
  obtain ⟨ha, hs, hl, hel, hr, hb⟩ := hA
  have ra := k.2 a ha.1 na
  refine ⟨ok_E ha k.1, by rw [ra.1]; exact hs, hl, fun v hv => (hel v hv).e k.1, by rw [ra.2.2.1]; exact hr, ?_⟩
  rcases hb with q | ⟨ob, hlen, hpos, hmx, hg⟩
  · exact Or.inl q
  · have e := (k.1.2.2 b ob.1).2
    refine Or.inr ⟨ok_E ob k.1, by rw [e]; exact hlen, by rw [e]; exact hpos, by rw [e]; exact hmx, fun i hi => ?_⟩
    rw [(k.2 b ob.1 (nb ob.2)).2.2.2.2.2]
    exact hg i hi
theorem ALi.fr {M M' : Mem} {a b : Nat} {xs : List Int32} {S : Nat → Prop} (hA : ALi M a b xs) (k : fr S M M') (na : ¬ S a) (nb : mK M b = 24 → ¬ S b) (h0 : ∀ c, c < mN M → S c → mK M c ≠ 0) : ALi M' a b xs := by
  obtain ⟨l, h1, h2, h3⟩ := hA
  exact ⟨l, h1.fr k na nb, h2, fun i hi => (h3 i hi).fr k h0⟩
theorem getD_xa {xs : List Int32} {x : Int32} {n j : Nat} (hn : n = xs.length) (h : j < n + 1) : (xs ++ [x]).getD j 0 = if j = n then x else xs.getD j 0 := by
  subst hn
  exact getD_app h
theorem S_addI {h a b v : Nat} {xs : List Int32} {x : Int32} {M : Mem} {Q : Option Value → Mem → Prop} (hA : ALi M a b xs) (hl : xs.length < 100000) (hv : IvR M v x) (H : ∀ M' b', ALi M' a b' (xs ++ [x]) → ALF M M' a b b' xs.length → Q (some (.int 1)) M') : E (h + 6) mdJx4a65c_add_9ea2d [.ref a, .ref v] M Q := by
  obtain ⟨l, h1, h2, h3⟩ := hA
  have oa := h1.1
  refine S_add h1 (by omega) (Or.inl rfl) hv.el (fun M' b' A' F' => H M' b' ⟨l ++ [v], A', by rw [List.length_append, List.length_append, h2]; rfl, fun i hi => ?_⟩ (h2 ▸ F'))
  have k0 : ∀ c, c < mN M → (c = a ∨ (c = b ∧ mK M c = 24)) → mK M c ≠ 0 := by
    intro c _ z
    rcases z with z | z
    · rw [z, oa.2]; decide
    · rw [z.2]; decide
  rw [List.length_append] at hi
  have hi : i < l.length + 1 := hi
  rw [getD_apN hi, getD_xa h2 hi]
  by_cases q : i = l.length
  · rw [if_pos q, if_pos q]; exact hv.fr F'.1 k0
  · rw [if_neg q, if_neg q]; exact (h3 i (by omega)).fr F'.1 k0
/-- what an if's literal changes -/
def AiF (M M' : Mem) (x a b lc rc lc' rc' b' n : Nat) : Prop := fr (fun c => c = x ∨ c = lc ∨ c = rc ∨ c = a ∨ (c = b ∧ mK M c = 24)) M M' ∧ (∀ f, f ≠ 4 → mI M' x f = mI M x f) ∧ (∀ f, f ≠ 0 → f ≠ 1 → mR M' x f = mR M x f) ∧ mJ M' x = mJ M x ∧ mN M' ≤ mN M + 4 ∧ mS M' + 4 * mL M lc ≤ mS M + 4 * mL M' lc' + (11 + 2 * n) ∧ (lc' = lc ∨ mN M ≤ lc') ∧ (rc' = rc ∨ mN M ≤ rc') ∧ (b' = b ∨ mN M ≤ b')
theorem S_addIf {h x a b lc rc : Nat} {N : Nt} {xs : List Int32} {M : Mem} {Q : Option Value → Mem → Prop} (hP : CirP M x lc rc N) (hlim : N.length < 100000) (hr : mR M x 7 = some a) (hA : ALi M a b xs) (hl : xs.length < 100000) (H : ∀ M' lc' rc' b', CirP M' x lc' rc' (frL N).1 → ALi M' a b' (xs ++ [Int32.ofNat (2 * N.length)]) → AiF M M' x a b lc rc lc' rc' b' xs.length → Q (some (.int (Int32.ofNat (2 * N.length)))) M') : E (h + 7) mdX0_addIf [.ref x] M Q := by
  have ox := hP.1
  have kl := hP.2.2.1.2
  have kr := hP.2.2.2.2.1.2
  obtain ⟨l0, hA1, -⟩ := id hA
  have oa := hA1.1
  have kk : ∀ c, c < mN M → (c = x ∨ c = lc ∨ c = rc) → mK M c = 2 ∨ mK M c = 21 := by
    intro c _ z
    rcases z with z | z | z
    · rw [z]; exact Or.inl ox.2
    · rw [z]; exact Or.inr kl
    · rw [z]; exact Or.inr kr
  refine KX0_addIf ?_
  unfold DX0_addIf_0
  refine ⟨ox, S_fresh (h := h + 2) hP hlim (fun M1 lc1 rc1 P1 F1 e1 => ⟨_, rfl, a, by rw [F1.2.2.1 7 (by decide) (by decide)]; exact hr, S_valueOf (h := h + 3) (fun M2 v hv V2 e2 => ⟨v, rfl, ?_⟩)⟩)⟩
  have e12 := F1.1.1
  have kx : ∀ {c : Nat}, c = x ∨ c = lc ∨ c = rc → mK M c = 2 ∨ mK M c = 21 := by
    intro c z
    rcases z with z | z | z
    · rw [z]; exact Or.inl ox.2
    · rw [z]; exact Or.inr kl
    · rw [z]; exact Or.inr kr
  have A1 : ALi M1 a b xs := hA.fr F1.1 (fun z => by rcases kx z with q | q <;> rw [oa.2] at q <;> exact absurd q (by decide)) (fun hb z => by rcases kx z with q | q <;> rw [hb] at q <;> exact absurd q (by decide)) (fun c _ z w => by rcases kx z with q | q <;> rw [w] at q <;> exact absurd q (by decide))
  have A2 : ALi M2 a b xs := A1.fr V2.1 (fun z => z) (fun _ z => z) (fun _ _ z => z.elim)
  have row2 : ∀ c, c < mN M1 → sameRow M1 M2 c := fun c hc => V2.1.2 c hc (fun z => z)
  have P2 : CirP M2 x lc1 rc1 (frL N).1 := P1.fr V2.1.1 (row2 _ P1.1.1) (row2 _ P1.2.2.1.1) (row2 _ P1.2.2.2.2.1.1)
  obtain ⟨l2, hA2, -⟩ := id A2
  refine ⟨hA2.1, S_addI (h := h) A2 hl hv (fun M3 b' A3 F3 _ => ⟨_, rfl, ?_⟩)⟩
  have kx2 : ∀ {c : Nat}, (c = a ∨ (c = b ∧ mK M2 c = 24)) → mK M2 c = 1 ∨ mK M2 c = 24 := by
    intro c z
    rcases z with z | z
    · rw [z]; exact Or.inl hA2.1.2
    · exact Or.inr z.2
  have nn : ∀ {c k : Nat}, ok M2 c k → k = 2 ∨ k = 21 → ¬ (c = a ∨ (c = b ∧ mK M2 c = 24)) := by
    intro c k o hk z
    have o2 := o.2
    rcases kx2 z with q | q <;> rcases hk with w | w <;> (rw [o2, w] at q; exact absurd q (by decide))
  have row3 : ∀ {c k : Nat}, ok M2 c k → k = 2 ∨ k = 21 → sameRow M2 M3 c := fun o hk => F3.1.2 _ o.1 (nn o hk)
  have P3 : CirP M3 x lc1 rc1 (frL N).1 := P2.fr F3.1.1 (row3 P2.1 (Or.inl rfl)) (row3 P2.2.2.1 (Or.inr rfl)) (row3 P2.2.2.2.2.1 (Or.inr rfl))
  obtain ⟨c1, c2, c3, c4, c5, c6, c7, c8, c9⟩ := F1
  obtain ⟨d1, d2, d3, d4, d5, d6, d7⟩ := F3
  obtain ⟨v1, v2, v3⟩ := V2
  have hx1 : x < mN M1 := P1.1.1
  have hx2 : x < mN M2 := P2.1.1
  have rx2 := row2 x hx1
  have rx3 := d1.2 x hx2 (nn P2.1 (Or.inl rfl))
  have len : (frL N).1.length = N.length + 1 := by show (N ++ [_]).length = _; rw [List.length_append]; rfl
  have hL1 : mL M3 lc1 = mL M1 lc1 := ((d1.1.2.2 lc1 P2.2.2.1.1).2).trans (v1.1.2.2 lc1 P1.2.2.1.1).2
  refine H M3 lc1 rc1 b' P3 A3 ⟨⟨(c1.1.tr v1.1).tr d1.1, fun c hc hn => ?_⟩, fun f hf => by rw [rx3.1, rx2.1]; exact c2 f hf, fun f f0 f1 => by rw [rx3.2.2.1, rx2.2.2.1]; exact c3 f f0 f1, by rw [rx3.2.1, rx2.2.1]; exact c4, by omega, by omega, c7, c8, ?_⟩
  · have r1 := c1.2 c hc (fun z => hn (by rcases z with z | z | z; exact Or.inl z; exact Or.inr (Or.inl z); exact Or.inr (Or.inr (Or.inl z))))
    have hc1 : c < mN M1 := Nat.lt_of_lt_of_le hc c1.1.1
    have hc2 : c < mN M2 := Nat.lt_of_lt_of_le hc1 v1.1.1
    have kc : mK M2 c = mK M c := ((v1.1.2.2 c hc1).1).trans (c1.1.2.2 c hc).1
    have r2 := row2 c hc1
    have r3 := d1.2 c hc2 (fun z => hn (by rcases z with z | z; exact Or.inr (Or.inr (Or.inr (Or.inl z))); exact Or.inr (Or.inr (Or.inr (Or.inr ⟨z.1, by rw [← kc]; exact z.2⟩)))))
    exact ⟨r3.1.trans (r2.1.trans r1.1), r3.2.1.trans (r2.2.1.trans r1.2.1), r3.2.2.1.trans (r2.2.2.1.trans r1.2.2.1), r3.2.2.2.1.trans (r2.2.2.2.1.trans r1.2.2.2.1), r3.2.2.2.2.1.trans (r2.2.2.2.2.1.trans r1.2.2.2.2.1), r3.2.2.2.2.2.trans (r2.2.2.2.2.2.trans r1.2.2.2.2.2)⟩
  · rcases d5 with q | q
    · exact Or.inl q
    · have := c1.1.1
      have := v1.1.1
      exact Or.inr (by omega)
