/-! a relation that every step of a reading keeps is kept by the reading -/
section
variable {b : Nat → Int32} {n m : Nat} {τ : Td}
theorem rp_gen (P : PS → PS → Prop) (rf : ∀ σ, P σ σ) (tr : ∀ σ σ1 σ2, P σ σ1 → P σ1 σ2 → P σ σ2) (hlf : ∀ k w j i K σ r, lfM b n m τ k w j i K σ = .ok r → P σ r.2.1) (hhd : ∀ k j i K σ r, hdM b n m τ k j i K σ = .ok r → P σ r.2.1) (htl : ∀ k j aw lit x i o σ r, tlM b n m τ k j aw lit x i o σ = .ok r → P σ r.2.1) (hch : ∀ lit x y i σ r, chM b n lit x y i σ = .ok r → P σ r.2.1) (hmk : ∀ σ k, k ≠ 2 → P σ (trP1 σ (mkT (trS σ) k).1)) (hhg : ∀ σ a c, P σ (hgP σ a c)) (hgu : ∀ σ g u, P σ (guP σ g u)) (hpa : ∀ σ j, P σ (paP σ j 2 8)) (hbg : ∀ σ k pl q d wh, P σ (bgP m k pl q d wh σ)) (hrw : ∀ σ p q, P σ (rwP p q σ)) (hfi : ∀ σ j x, P σ (fiP m j x σ)) : ∀ (g md : Nat) (K : List KE) (i : Nat) (σ : PS) (a1 a2 a3 a4 : Nat) (c1 c2 : Int32) (r : Nat × PS × Nat), md ≤ 3 → rp b n m τ g md K i σ a1 a2 a3 a4 c1 c2 = .ok r → P σ r.2.1 := by
  have hbr : ∀ σ j a x g u, P σ (brP σ j a x g u) := fun σ j a x g u => by
    unfold brP
    refine tr _ _ _ ?_ (hgu _ _ _)
    refine tr _ _ _ ?_ (hhg _ _ _)
    split
    · exact rf _
    · exact hpa _ _
  intro g
  induction g with
  | zero => intro md K i σ a1 a2 a3 a4 c1 c2 r _ e; unfold rp at e; cases e
  | succ g ih =>
    intro md K i σ a1 a2 a3 a4 c1 c2 r hm e
    by_cases m2 : md = 2
    · subst m2
      rw [rp_bd] at e
      obtain ⟨u0, -, e⟩ := bind_ok e
      obtain ⟨i1, -, e⟩ := bind_ok e
      obtain ⟨u, eb, e⟩ := bind_ok e
      cases e
      refine tr _ _ _ ?_ (hfi u.2.1 (npS σ) u.2.2)
      generalize tK b n i = k at eb
      generalize tC b n i = w at eb
      generalize npS σ = j at eb
      refine tr _ _ _ (hbg σ k (tP b n i) (sqK K) K.length (whK k w τ)) ?_
      generalize bgP m k (tP b n i) (sqK K) K.length (whK k w τ) σ = s0 at eb
      unfold bdM at eb
      by_cases ko : opnK k = false
      · rw [if_pos ko] at eb
        exact hlf _ _ _ _ _ _ _ eb
      rw [if_neg ko] at eb
      obtain ⟨h, eh, eb⟩ := bind_ok eb
      have q2 := tr _ _ _ (hhd _ _ _ _ _ _ eh) (hrw h.2.1 (40 * m + j) none)
      by_cases k17 : k = 17
      · rw [if_pos k17] at eb
        obtain ⟨q, e1, eb⟩ := bind_ok eb
        cases eb
        exact tr _ _ _ (tr _ _ _ q2 (ih 3 _ _ _ _ _ _ _ _ _ q (by decide) e1)) (hgu _ _ _)
      rw [if_neg k17] at eb
      obtain ⟨q, e1, eb⟩ := bind_ok eb
      have hq := tr _ _ _ q2 (ih 0 _ _ _ _ _ _ _ _ _ q (by decide) e1)
      by_cases k4 : k = 44 ∨ k = 58
      · rw [if_pos k4] at eb
        by_cases k46 : tK b n q.1 = 46
        · rw [if_pos k46] at eb
          obtain ⟨i2, -, eb⟩ := bind_ok eb
          obtain ⟨t, e2, eb⟩ := bind_ok eb
          have ht := ih 0 _ _ _ _ _ _ _ _ _ t (by decide) e2
          exact tr _ _ _ (tr _ _ _ (tr _ _ _ hq (hrw _ _ _)) ht) (hch _ _ _ _ _ _ eb)
        · rw [if_neg k46] at eb
          exact tr _ _ _ (tr _ _ _ hq (hmk q.2.1 0 (by decide))) (hch _ _ _ _ _ _ eb)
      rw [if_neg k4] at eb
      exact tr _ _ _ hq (htl _ _ _ _ _ _ _ _ _ eb)
    by_cases m0 : md = 0
    · subst m0
      unfold rp at e
      rw [if_pos rfl] at e
      obtain ⟨q, e1, e⟩ := bind_ok e
      have hq := tr _ _ _ (hmk σ 5 (by decide)) (ih 2 _ _ _ _ _ _ _ _ _ q (by decide) e1)
      exact tr _ _ _ (tr _ _ _ hq (hhg _ _ _)) (ih 1 _ _ _ _ _ _ _ _ _ r (by decide) e)
    by_cases m1 : md = 1
    · subst m1
      unfold rp at e
      rw [if_neg (by decide), if_pos rfl] at e
      by_cases h13 : tK b n i = 13
      · rw [if_pos h13] at e
        obtain ⟨j, -, e⟩ := bind_ok e
        obtain ⟨q, e1, e⟩ := bind_ok e
        have hq := ih 2 _ _ _ _ _ _ _ _ _ q (by decide) e1
        exact tr _ _ _ (tr _ _ _ hq (hhg _ _ _)) (ih 1 _ _ _ _ _ _ _ _ _ r (by decide) e)
      · rw [if_neg h13] at e; cases e; exact rf _
    · have m3 : md = 3 := by omega
      subst m3
      unfold rp at e
      rw [if_neg m0, if_neg m1, if_neg m2] at e
      obtain ⟨q, e1, e⟩ := bind_ok e
      have hq := tr _ _ _ (hgu σ 0 0) (ih 0 _ _ _ _ _ _ _ _ _ q (by decide) e1)
      have bn := tr _ _ _ hq (hbr q.2.1 a2 a1 q.2.2 c1 c2)
      by_cases h6 : tK b n q.1 = 6
      · rw [if_pos h6] at e
        by_cases h8 : a4 = 8
        · rw [if_pos h8] at e; cases e
        rw [if_neg h8] at e
        obtain ⟨j, -, e⟩ := bind_ok e
        have h3 := ih 3 _ _ _ _ _ _ _ _ _ r (by decide) e
        exact tr _ _ _ (tr _ _ _ bn (hrw _ _ _)) h3
      · rw [if_neg h6] at e
        obtain ⟨j, -, e⟩ := bind_ok e
        cases e
        exact bn
end
/-! nets of a reading: ands, the first ones, 'pre's, ifs -/
def NxI (S : Nat) (N : Nt) (bf : Nat → Nat) (is : List Int32) (Y : List Cd) : Prop := (∀ n, n < N.length → (N.getD n (0, 0)).1 ≠ (N.getD n (0, 0)).2 ∨ n < 2 + S ∨ (∃ s, s < S ∧ bf s = 2 * n) ∨ ∃ f, f < is.length ∧ is.getD f 0 = Int32.ofNat (2 * n)) ∧ (∀ s, S ≤ s → bf s = 0) ∧ 2 + S ≤ N.length ∧ (∀ n, n < 2 + S → N.getD n (0, 0) = (2 * n, 2 * n)) ∧ ∀ d ∈ Y, d.1 ≤ 1 → d.2.1 < S
section
variable {S : Nat} {N : Nt} {bf : Nat → Nat} {is : List Int32} {a c : Nat} {Y : List Cd}
theorem NxI.an (h : NxI S N bf is Y) : NxI S (anL N a c).1 bf is Y := by
  unfold anL
  by_cases e1 : a = 0 ∨ c = 0
  · rw [if_pos e1]; exact h
  rw [if_neg e1]
  by_cases e2 : a = 1 ∨ a = c
  · rw [if_pos e2]; exact h
  rw [if_neg e2]
  by_cases e3 : c = 1
  · rw [if_pos e3]; exact h
  rw [if_neg e3]
  refine ⟨fun n hn => ?_, h.2.1, ?_, fun n hn => ?_, h.2.2.2.2⟩
  rotate_left
  · show 2 + S ≤ (N ++ [(a, c)]).length
    rw [List.length_append]
    have := h.2.2.1
    omega
  · show (N ++ [(a, c)]).getD n (0, 0) = _
    rw [gdA (by have := h.2.2.1; omega)]
    exact h.2.2.2.1 n hn
  have hn : n < (N ++ [(a, c)]).length := hn
  rw [List.length_append] at hn
  have hn : n < N.length + 1 := hn
  show ((N ++ [(a, c)]).getD n (0, 0)).1 ≠ ((N ++ [(a, c)]).getD n (0, 0)).2 ∨ _
  by_cases z : n = N.length
  · rw [z, gdB]
    exact Or.inl (fun e => e2 (Or.inr e))
  · rw [gdA (by omega)]; exact h.1 n (by omega)
theorem NxI.nd {sg : Nat → Nat} {Z : List Nat} {d : Cd} (h : NxI S N bf is Y) (hd : d.1 = 1 → d.2.1 < S) : NxI S (ndL sg (N, bf, Z) d).1 (ndL sg (N, bf, Z) d).2.1 is Y := by
  unfold ndL
  by_cases d0 : d.1 = 0
  · rw [if_pos d0]; exact h
  rw [if_neg d0]
  by_cases d1 : d.1 = 1
  · rw [if_pos d1]
    show NxI S (bfL N bf d.2.1).1 (bfL N bf d.2.1).2.1 is Y
    unfold bfL
    by_cases z : bf d.2.1 = 0
    · rw [if_pos z]
      refine ⟨fun n hn => ?_, fun s hs => ?_, ?_, fun n hn => ?_, h.2.2.2.2⟩
      rotate_left 2
      · show 2 + S ≤ (N ++ [(2 * N.length, 2 * N.length)]).length
        rw [List.length_append]
        have := h.2.2.1
        omega
      · show (N ++ [(2 * N.length, 2 * N.length)]).getD n (0, 0) = _
        rw [gdA (by have := h.2.2.1; omega)]
        exact h.2.2.2.1 n hn
      · have hn : n < (N ++ [(2 * N.length, 2 * N.length)]).length := hn
        rw [List.length_append] at hn
        have hn : n < N.length + 1 := hn
        show ((N ++ [(2 * N.length, 2 * N.length)]).getD n (0, 0)).1 ≠ ((N ++ [(2 * N.length, 2 * N.length)]).getD n (0, 0)).2 ∨ n < 2 + S ∨ (∃ s, s < S ∧ upF bf d.2.1 (2 * N.length) s = 2 * n) ∨ _
        by_cases y : n = N.length
        · refine Or.inr (Or.inr (Or.inl ⟨d.2.1, hd d1, ?_⟩))
          rw [y]
          unfold upF
          rw [if_pos rfl]
        · rw [gdA (by omega)]
          rcases h.1 n (by omega) with q | q | ⟨s, s1, s2⟩ | q
          · exact Or.inl q
          · exact Or.inr (Or.inl q)
          · by_cases e : s = d.2.1
            · refine Or.inr (Or.inl ?_)
              rw [e, z] at s2
              omega
            · refine Or.inr (Or.inr (Or.inl ⟨s, s1, ?_⟩))
              unfold upF
              rw [if_neg e]; exact s2
          · exact Or.inr (Or.inr (Or.inr q))
      · show upF bf d.2.1 (2 * N.length) s = 0
        unfold upF
        rw [if_neg (fun e => by have := hd d1; omega)]
        exact h.2.1 s hs
    · rw [if_neg z]; exact h
  rw [if_neg d1]
  by_cases d2 : d.1 = 2
  · rw [if_pos d2]; exact h
  rw [if_neg d2]
  by_cases d3 : d.1 = 3
  · rw [if_pos d3]; exact h.an
  rw [if_neg d3]
  exact h.an
theorem NxI.cy {sg : Nat → Nat} : ∀ (V : List Cd) (N : Nt) (bf : Nat → Nat) (Z : List Nat), NxI S N bf is Y → (∀ d ∈ V, d.1 = 1 → d.2.1 < S) → NxI S (cyL sg (N, bf, Z) V).1 (cyL sg (N, bf, Z) V).2.1 is Y
  | [], _, _, _, h, _ => h
  | d :: V, N, bf, Z, h, hd => by
    show NxI S (cyL sg (ndL sg (N, bf, Z) d) V).1 (cyL sg (ndL sg (N, bf, Z) d) V).2.1 is Y
    have e : ndL sg (N, bf, Z) d = ((ndL sg (N, bf, Z) d).1, (ndL sg (N, bf, Z) d).2.1, (ndL sg (N, bf, Z) d).2.2) := rfl
    rw [e]
    exact NxI.cy V _ _ _ (h.nd (hd d List.mem_cons_self)) (fun d' h' => hd d' (List.mem_cons_of_mem _ h'))
end
section
variable {b : Nat → Int32} {n m : Nat} {τ : Td}
def Nxr (τ : Td) (σ σ' : PS) : Prop := NxI τ.1.length σ.2.1.2.2.1 σ.2.1.2.2.2.1 (ifS σ) σ.2.2.2 → NxI τ.1.length σ'.2.1.2.2.1 σ'.2.1.2.2.2.1 (ifS σ') σ'.2.2.2
theorem Nxr.t1 {σ σ1 : PS} {T : TrT} (h : Nxr τ σ σ1) : Nxr τ σ (trP1 σ1 T) := h
theorem nx_t1 {σ σ1 : PS} {T : TrT} {i x : Nat} {r : Nat × PS × Nat} (h : Nxr τ σ σ1) (e : (Except.ok (i, trP1 σ1 T, x) : Except (Int32 × Nat) (Nat × PS × Nat)) = .ok r) : Nxr τ σ r.2.1 := by
  have e := Except.ok.inj e
  rw [← e]
  exact h.t1
theorem nx_co {j i o : Nat} {σ : PS} {r : Nat × PS × Nat} (e : coM b n m τ j i o σ = .ok r) : Nxr τ σ r.2.1 := by
  unfold coM at e
  obtain ⟨q, e1, e⟩ := bind_ok e
  cases e
  intro h
  have w := rc_w (b := b) (n := n) (sN := τ.1) 6000 3 i o σ.2.2.2 σ.2.2.2.length q (by decide) (Nat.le_refl _) (fun z => by omega) (fun k h1 h2 => by omega) e1
  have nw : ∀ d ∈ q.2.drop σ.2.2.2.length, d.1 ≤ 1 → d.2.1 < τ.1.length := fun d hd d1 => by
    obtain ⟨k, kl, ke⟩ := List.mem_iff_getElem.mp hd
    rw [List.length_drop] at kl
    have e2 : q.2.getD (σ.2.2.2.length + k) (0, 0, 0) = d := by
      rw [List.getD_eq_getElem?_getD, List.getElem?_eq_getElem (by omega)]
      rw [List.getElem_drop] at ke
      exact ke
    have q2 := w.1 (σ.2.2.2.length + k) (by omega) (by omega)
    rw [e2] at q2
    exact q2.2.1 d1
  have hh := NxI.cy (sg := sgT τ.1.length) (q.2.drop σ.2.2.2.length) _ _ (List.replicate σ.2.2.2.length 0) h (fun d hd d1 => nw d hd (by omega))
  refine ⟨hh.1, hh.2.1, hh.2.2.1, hh.2.2.2.1, fun d hd d1 => ?_⟩
  have hd : d ∈ q.2 := hd
  obtain ⟨V, eV⟩ := w.2.1
  rw [eV] at hd
  rcases List.mem_append.mp hd with y | y
  · exact h.2.2.2.2 d y d1
  · refine nw d ?_ d1
    rw [eV, List.drop_left]
    exact y
theorem nx_at {j i o : Nat} {σ : PS} {r : Nat × PS × Nat × Bool} (e : atM b n m τ j i o σ = .ok r) : Nxr τ σ r.2.1 := by
  unfold atM at e
  obtain ⟨q, -, e⟩ := bind_ok e
  obtain ⟨t, e1, e⟩ := bind_ok e
  cases e
  have h := nx_co e1
  intro k
  refine h ?_
  by_cases z : q.2 = true
  · rw [if_pos z]; exact k
  · rw [if_neg z]; exact k
theorem nx_su {j f1 f2 fo i o : Nat} {σ : PS} {r : Nat × PS} (e : suM b n m τ j f1 f2 fo i o σ = .ok r) : Nxr τ σ r.2 ∧ r.2.2.1.2.2.1 = σ.2.1.2.2.1 ∧ r.2.2.1.2.2.2.1 = σ.2.1.2.2.2.1 ∧ ifS r.2 = ifS σ ∧ r.2.2.2.2 = σ.2.2.2 := by
  unfold suM at e
  obtain ⟨q, -, e⟩ := bind_ok e
  cases e
  exact ⟨fun k => k, rfl, rfl, rfl, rfl⟩
theorem nx_em {k : Int32} {j i o : Nat} {σ : PS} {r : Nat × PS × Nat} (e : emM b n m τ k j i o σ = .ok r) : Nxr τ σ r.2.1 := by
  unfold emM at e
  by_cases h1 : tK b n i = 2
  · rw [if_pos h1] at e
    cases h2 : fd τ.1 (tC b n i) with
    | none => rw [h2] at e; cases e
    | some s =>
      rw [h2] at e
      have e : (if τ.2.1.getD s 0 = 30 then Except.error (4, tP b n i) else (adv' b n i).bind fun i2 => _) = .ok r := e
      by_cases h3 : τ.2.1.getD s 0 = 30
      · rw [if_pos h3] at e; cases e
      rw [if_neg h3] at e
      obtain ⟨i2, -, e⟩ := bind_ok e
      by_cases h4 : τ.2.2.1.getD s 0 = 0
      · rw [if_pos h4] at e
        by_cases h5 : k = 40 ∧ tK b n i2 = 15
        · rw [if_pos h5] at e; cases e
        · rw [if_neg h5] at e; cases e; exact fun q => q
      · rw [if_neg h4] at e
        by_cases h5 : k = 40 ∧ tK b n i2 = 15
        · rw [if_pos h5] at e
          by_cases h6 : o = 15
          · rw [if_pos h6] at e; cases e
          rw [if_neg h6] at e
          obtain ⟨i3, -, e⟩ := bind_ok e
          obtain ⟨q, e1, e⟩ := bind_ok e
          obtain ⟨i4, -, e⟩ := bind_ok e
          cases e
          exact (nx_su e1).1
        · rw [if_neg h5] at e; cases e
  · rw [if_neg h1] at e; cases e
theorem nx_lf {k : Int32} {w : Int64} {j i : Nat} {K : List KE} {σ : PS} {r : Nat × PS × Nat} (e : lfM b n m τ k w j i K σ = .ok r) : Nxr τ σ r.2.1 := by
  unfold lfM at e
  by_cases k1 : k = 38
  · rw [if_pos k1] at e; exact nx_t1 (fun q => q) e
  rw [if_neg k1] at e
  by_cases k2 : k = 39
  · rw [if_pos k2] at e; exact nx_t1 (fun q => q) e
  rw [if_neg k2] at e
  by_cases k3 : k = 40
  · rw [if_pos k3] at e
    obtain ⟨y, e1, e⟩ := bind_ok e
    exact nx_t1 (nx_em e1) e
  rw [if_neg k3] at e
  by_cases k4 : k = 41
  · rw [if_pos k4] at e
    obtain ⟨y, e1, e⟩ := bind_ok e
    exact nx_t1 (nx_em e1) e
  rw [if_neg k4] at e
  by_cases k5 : k = 47
  · rw [if_pos k5] at e
    obtain ⟨y, e1, e⟩ := bind_ok e
    exact nx_t1 (nx_at e1) e
  rw [if_neg k5] at e
  by_cases k6 : k = 57
  · rw [if_pos k6] at e
    by_cases h1 : tK b n i = 2
    · rw [if_pos h1] at e
      cases h2 : trW K (tC b n i) with
      | none => rw [h2] at e; cases e
      | some q =>
        rw [h2] at e
        obtain ⟨i2, -, e⟩ := bind_ok e
        cases e; exact fun q => q
    · rw [if_neg h1] at e; cases e
  rw [if_neg k6] at e
  by_cases k7 : k = 2
  · rw [if_pos k7] at e
    obtain ⟨i2, -, e⟩ := bind_ok e
    obtain ⟨y, e1, e⟩ := bind_ok e
    have h := (nx_su e1).1
    cases e; exact h
  rw [if_neg k7] at e
  cases e; exact fun q => q
theorem nx_hd {k : Int32} {j i : Nat} {K : List KE} {σ : PS} {r : Nat × PS × Nat × Bool × Nat × Option Int64} (e : hdM b n m τ k j i K σ = .ok r) : Nxr τ σ r.2.1 := by
  unfold hdM at e
  by_cases k1 : k = 44
  · rw [if_pos k1] at e
    obtain ⟨y, e1, e⟩ := bind_ok e
    obtain ⟨i2, -, e⟩ := bind_ok e
    have h := nx_co e1
    cases e; exact h
  rw [if_neg k1] at e
  by_cases k2 : k = 49
  · rw [if_pos k2] at e; cases e; exact fun q => q
  rw [if_neg k2] at e
  by_cases k3 : k = 50
  · rw [if_pos k3] at e
    obtain ⟨i2, -, e⟩ := bind_ok e
    cases e; exact fun q => q
  rw [if_neg k3] at e
  by_cases k4 : k = 53
  · rw [if_pos k4] at e
    obtain ⟨y, e1, e⟩ := bind_ok e
    obtain ⟨i2, -, e⟩ := bind_ok e
    have h := nx_at e1
    cases e; exact h
  rw [if_neg k4] at e
  by_cases k5 : k = 55
  · rw [if_pos k5] at e
    by_cases h1 : tK b n i = 2
    · rw [if_pos h1] at e
      by_cases h2 : toT (tC b n i) τ = true ∨ (trW K (tC b n i)).isSome = true
      · rw [if_pos h2] at e; cases e
      rw [if_neg h2] at e
      obtain ⟨i2, -, e⟩ := bind_ok e
      obtain ⟨i3, -, e⟩ := bind_ok e
      cases e; exact fun q => q
    · rw [if_neg h1] at e; cases e
  rw [if_neg k5] at e
  by_cases k6 : k = 58
  · rw [if_pos k6] at e
    obtain ⟨y, e1, e⟩ := bind_ok e
    by_cases h1 : 7 ≤ tK b n y.1 ∧ tK b n y.1 ≤ 12
    · rw [if_pos h1] at e
      obtain ⟨i2, -, e⟩ := bind_ok e
      obtain ⟨z, e2, e⟩ := bind_ok e
      obtain ⟨i3, -, e⟩ := bind_ok e
      have q1 := nx_su e1
      have q2 := nx_su e2
      cases e
      intro h
      obtain ⟨h1, h2, h3, h4⟩ := h
      have eN : z.2.2.1.2.2.1 = σ.2.1.2.2.1 := q2.2.1.trans q1.2.1
      have eb : z.2.2.1.2.2.2.1 = σ.2.1.2.2.2.1 := q2.2.2.1.trans q1.2.2.1
      have ei : z.2.2.1.2.2.2.2.1 = ifS σ := q2.2.2.2.1.trans q1.2.2.2.1
      have eY : z.2.2.2.2 = σ.2.2.2 := q2.2.2.2.2.trans q1.2.2.2.2
      show NxI τ.1.length (frL z.2.2.1.2.2.1).1 z.2.2.1.2.2.2.1 (z.2.2.1.2.2.2.2.1 ++ [Int32.ofNat (2 * z.2.2.1.2.2.1.length)]) z.2.2.2.2
      rw [eN, eb, ei, eY]
      refine ⟨fun n hn => ?_, h2, ?_, fun n hn => ?_, h4.2⟩
      rotate_left
      · show 2 + τ.1.length ≤ (σ.2.1.2.2.1 ++ [(2 * σ.2.1.2.2.1.length, 2 * σ.2.1.2.2.1.length)]).length
        rw [List.length_append]
        omega
      · show (σ.2.1.2.2.1 ++ [(2 * σ.2.1.2.2.1.length, 2 * σ.2.1.2.2.1.length)]).getD n (0, 0) = _
        rw [gdA (by omega)]
        exact h4.1 n hn
      have hn : n < (σ.2.1.2.2.1 ++ [(2 * σ.2.1.2.2.1.length, 2 * σ.2.1.2.2.1.length)]).length := hn
      rw [List.length_append] at hn
      have hn : n < σ.2.1.2.2.1.length + 1 := hn
      show ((σ.2.1.2.2.1 ++ [(2 * σ.2.1.2.2.1.length, 2 * σ.2.1.2.2.1.length)]).getD n (0, 0)).1 ≠ ((σ.2.1.2.2.1 ++ [(2 * σ.2.1.2.2.1.length, 2 * σ.2.1.2.2.1.length)]).getD n (0, 0)).2 ∨ _
      by_cases z : n = σ.2.1.2.2.1.length
      · refine Or.inr (Or.inr (Or.inr ⟨(ifS σ).length, by rw [List.length_append]; exact Nat.lt_succ_self _, ?_⟩))
        rw [gdB, z]
      · rw [gdA (by omega)]
        rcases h1 n (by omega) with q | q | q | ⟨f, f1, f2⟩
        · exact Or.inl q
        · exact Or.inr (Or.inl q)
        · exact Or.inr (Or.inr (Or.inl q))
        · exact Or.inr (Or.inr (Or.inr ⟨f, by rw [List.length_append]; omega, by rw [gdA f1]; exact f2⟩))
    · rw [if_neg h1] at e; cases e
  rw [if_neg k6] at e
  by_cases k7 : k = 17
  · rw [if_pos k7] at e; cases e; exact fun q => q
  rw [if_neg k7] at e
  cases e; exact fun q => q
theorem nx_tl {k : Int32} {j aw lit x i o : Nat} {σ : PS} {r : Nat × PS × Nat} (e : tlM b n m τ k j aw lit x i o σ = .ok r) : Nxr τ σ r.2.1 := by
  unfold tlM at e
  by_cases k1 : k = 42
  · rw [if_pos k1] at e
    obtain ⟨i2, -, e⟩ := bind_ok e
    cases e
    intro q
    by_cases h1 : (trS σ).2.2 13 x &&& 1 = 0
    · rw [if_pos h1]; exact q
    · rw [if_neg h1]; exact q
  rw [if_neg k1] at e
  by_cases k2 : k = 49
  · rw [if_pos k2] at e
    obtain ⟨i2, -, e⟩ := bind_ok e
    obtain ⟨y, e1, e⟩ := bind_ok e
    obtain ⟨i3, -, e⟩ := bind_ok e
    have h := nx_at e1
    by_cases h1 : y.2.2.2 = true
    · rw [if_pos h1] at e; exact nx_t1 h e
    · rw [if_neg h1] at e; exact nx_t1 h e
  rw [if_neg k2] at e
  by_cases k3 : k = 50
  · rw [if_pos k3] at e
    obtain ⟨i2, -, e⟩ := bind_ok e
    obtain ⟨y, e1, e⟩ := bind_ok e
    obtain ⟨i3, -, e⟩ := bind_ok e
    exact nx_t1 (nx_at e1) e
  rw [if_neg k3] at e
  by_cases k4 : k = 52
  · rw [if_pos k4] at e
    obtain ⟨i2, -, e⟩ := bind_ok e
    obtain ⟨y, e1, e⟩ := bind_ok e
    obtain ⟨i3, -, e⟩ := bind_ok e
    exact nx_t1 (nx_co e1) e
  rw [if_neg k4] at e
  by_cases k5 : k = 53
  · rw [if_pos k5] at e
    obtain ⟨i2, -, e⟩ := bind_ok e
    exact nx_t1 (fun q => q) e
  rw [if_neg k5] at e
  obtain ⟨i2, -, e⟩ := bind_ok e
  exact nx_t1 (fun q => q) e
/-- nets that a reading leaves -/
theorem rp_nx : ∀ (g md : Nat) (K : List KE) (i : Nat) (σ : PS) (a1 a2 a3 a4 : Nat) (c1 c2 : Int32) (r : Nat × PS × Nat), md ≤ 3 → rp b n m τ g md K i σ a1 a2 a3 a4 c1 c2 = .ok r → Nxr τ σ r.2.1 :=
  rp_gen (Nxr τ) (fun _ q => q) (fun _ _ _ h k q => k (h q)) (fun _ _ _ _ _ _ _ e => nx_lf e) (fun _ _ _ _ _ _ e => nx_hd e) (fun _ _ _ _ _ _ _ _ _ e => nx_tl e) (fun lit x y i σ r e => by
    unfold chM at e
    obtain ⟨i2, -, e⟩ := bind_ok e
    cases e; exact fun q => q) (fun _ _ _ q => q) (fun _ _ _ q => q) (fun _ _ _ q => q) (fun _ _ q => q) (fun _ _ _ _ _ _ q => q) (fun _ _ _ q => q) (fun _ _ _ q => q)
end
