/-! what is to be worked for each part: the reference's cells and the class's fields -/
def coS (σ : PS) : List Int32 := σ.2.1.2.2.2.2.2.1
/-- a sum of part j -/
def SuA (m : Nat) (A PA : Nat → Nat → Int32) (X : List Nd) (cs : List Int32) (j c1 c2 fo : Nat) : Prop := ∃ f c, (f ≤ c ∧ c < X.length) ∧ A c1 (40 * m + j) = Int32.ofNat (810 * m + f) ∧ A c2 (40 * m + j) = Int32.ofNat (810 * m + c) ∧ GdS X 40 (c + 1 - f) f [] [c] ∧ ∃ pr po, PA j fo = Int32.ofNat pr.length ∧ cs = pr ++ (cdL ((X.drop f).take (c + 1 - f)) ++ 0 :: po)
def ifU (f : Nat → Int32) (m : Nat) : Nat → Nat
  | 0 => 0
  | j + 1 => ifU f m j + (if f (40 * m + j) = 14 then 1 else 0)
theorem ifU_cg {f g : Nat → Int32} {m : Nat} : ∀ {j : Nat}, (∀ i, i < j → f (40 * m + i) = g (40 * m + i)) → ifU f m j = ifU g m j
  | 0, _ => rfl
  | j + 1, h => by
    unfold ifU
    rw [ifU_cg (j := j) (fun i hi => h i (by omega)), h j (by omega)]
theorem ifU_mo {f : Nat → Int32} {m : Nat} : ∀ {j i : Nat}, i ≤ j → ifU f m i ≤ ifU f m j
  | 0, i, h => by rw [Nat.le_zero.mp h]; exact Nat.le_refl _
  | j + 1, i, h => by
    rcases Nat.lt_or_eq_of_le h with q | q
    · exact Nat.le_trans (ifU_mo (j := j) (Nat.le_of_lt_succ q)) (Nat.le_add_right _ _)
    · rw [q]; exact Nat.le_refl _
def TkP (τ : Td) (m : Nat) (A PA : Nat → Nat → Int32) (X : List Nd) (cs : List Int32) (j : Nat) : Prop :=
  (PA j 3 = 0 ∧ A 58 (40 * m + j) ≠ 14 ∧ A 58 (40 * m + j) ≠ 15 ∧ (A 58 (40 * m + j) = 3 → A 65 (40 * m + j) = -1))
  ∨ (PA j 3 = 1 ∧ A 58 (40 * m + j) = 3 ∧ (∃ s, s < τ.1.length ∧ τ.2.2.1.getD s 0 ≠ 0 ∧ A 60 (40 * m + j) = Int32.ofNat s ∧ PA j 4 = Int32.ofNat s) ∧ SuA m A PA X cs j 64 65 5)
  ∨ (PA j 3 = 2 ∧ A 58 (40 * m + j) = 15 ∧ (∃ v, v < τ.2.2.2.1.length ∧ A 60 (40 * m + j) = Int32.ofNat v ∧ PA j 4 = Int32.ofNat v) ∧ SuA m A PA X cs j 64 65 5)
  ∨ (PA j 3 = 3 ∧ A 58 (40 * m + j) = 14 ∧ PA j 4 = Int32.ofNat (ifU (A 58) m j) ∧ SuA m A PA X cs j 64 65 5 ∧ SuA m A PA X cs j 66 67 6 ∧ ∃ t : Int32, (7 ≤ t ∧ t ≤ 12) ∧ PA j 7 = t ∧ A 68 (40 * m + j) = t - 7)
def TkI (τ : Td) (m : Nat) (σ : PS) : Prop := (∀ j, j < npS σ → TkP τ m σ.1.2.1 σ.2.1.1 σ.2.2.1 (coS σ) j) ∧ σ.1.1 2 = ifU (σ.1.2.1 58) m (npS σ)
def tsC (c : Nat) : Prop := c = 58 ∨ c = 60 ∨ (64 ≤ c ∧ c ≤ 68)
/-- of parts below np nothing changes -/
def TsR (m np : Nat) (σ σ' : PS) : Prop := (∀ c, tsC c → ∀ j, j < np → σ'.1.2.1 c (40 * m + j) = σ.1.2.1 c (40 * m + j)) ∧ (∀ j, j < np → ∀ f, 3 ≤ f → σ'.2.1.1 j f = σ.2.1.1 j f) ∧ (∃ Y, σ'.2.2.1 = σ.2.2.1 ++ Y) ∧ ∃ ds, coS σ' = coS σ ++ ds
section
variable {τ : Td} {m np j : Nat} {σ σ' σ1 σ2 : PS}
theorem TsR.rf : TsR m np σ σ := ⟨fun _ _ _ _ => rfl, fun _ _ _ _ => rfl, ⟨[], (List.append_nil _).symm⟩, [], (List.append_nil _).symm⟩
theorem TsR.tr (h : TsR m np σ σ1) (k : TsR m np σ1 σ2) : TsR m np σ σ2 := by
  obtain ⟨a1, a2, ⟨Y, a3⟩, ds, a4⟩ := h
  obtain ⟨b1, b2, ⟨Y', b3⟩, ds', b4⟩ := k
  exact ⟨fun c hc j hj => (b1 c hc j hj).trans (a1 c hc j hj), fun j hj f hf => (b2 j hj f hf).trans (a2 j hj f hf), ⟨Y ++ Y', by rw [b3, a3, List.append_assoc]⟩, ds ++ ds', by rw [b4, a4, List.append_assoc]⟩
theorem SuA.st {c1 c2 fo : Nat} (h : SuA m σ.1.2.1 σ.2.1.1 σ.2.2.1 (coS σ) j c1 c2 fo) (k : TsR m np σ σ') (hj : j < np) (h1 : tsC c1) (h2 : tsC c2) (h3 : 3 ≤ fo) : SuA m σ'.1.2.1 σ'.2.1.1 σ'.2.2.1 (coS σ') j c1 c2 fo := by
  obtain ⟨f, c, ⟨hf, hc⟩, e1, e2, g, pr, po, e3, e4⟩ := h
  obtain ⟨a1, a2, ⟨Y, a3⟩, ds, a4⟩ := k
  refine ⟨f, c, ⟨hf, ?_⟩, (a1 c1 h1 j hj).trans e1, (a1 c2 h2 j hj).trans e2, ?_, pr, po ++ ds, (a2 j hj fo h3).trans e3, ?_⟩
  · rw [a3, List.length_append]; omega
  · rw [a3]; exact GdS.app _ _ _ _ (by omega) g
  · rw [a4, e4, a3, List.drop_append_of_le_length (by omega), List.take_append_of_le_length (by rw [List.length_drop]; omega), List.append_assoc, List.append_assoc]
    rfl
theorem TkP.st (h : TkP τ m σ.1.2.1 σ.2.1.1 σ.2.2.1 (coS σ) j) (k : TsR m np σ σ') (hj : j < np) : TkP τ m σ'.1.2.1 σ'.2.1.1 σ'.2.2.1 (coS σ') j := by
  have c58 := k.1 58 (Or.inl rfl) j hj
  have c60 := k.1 60 (Or.inr (Or.inl rfl)) j hj
  have c65 := k.1 65 (Or.inr (Or.inr ⟨by decide, by decide⟩)) j hj
  have c68 := k.1 68 (Or.inr (Or.inr ⟨by decide, by decide⟩)) j hj
  have p3 := k.2.1 j hj 3 (by decide)
  have p4 := k.2.1 j hj 4 (by decide)
  have p7 := k.2.1 j hj 7 (by decide)
  have t64 : tsC 64 := Or.inr (Or.inr ⟨by decide, by decide⟩)
  have t65 : tsC 65 := Or.inr (Or.inr ⟨by decide, by decide⟩)
  have t66 : tsC 66 := Or.inr (Or.inr ⟨by decide, by decide⟩)
  have t67 : tsC 67 := Or.inr (Or.inr ⟨by decide, by decide⟩)
  unfold TkP at h ⊢
  rw [c58, c60, c65, c68, p3, p4, p7]
  rcases h with q | ⟨q1, q2, q3, q4⟩ | ⟨q1, q2, q3, q4⟩ | ⟨q1, q2, q3, q4, q5, q6⟩
  · exact Or.inl q
  · exact Or.inr (Or.inl ⟨q1, q2, q3, q4.st k hj t64 t65 (by decide)⟩)
  · exact Or.inr (Or.inr (Or.inl ⟨q1, q2, q3, q4.st k hj t64 t65 (by decide)⟩))
  · refine Or.inr (Or.inr (Or.inr ⟨q1, q2, ?_, q4.st k hj t64 t65 (by decide), q5.st k hj t66 t67 (by decide), q6⟩))
    rw [q3, ifU_cg (fun i hi => (k.1 58 (Or.inl rfl) i (by omega)))]
theorem TkI.st (h : TkI τ m σ) (k : TsR m (npS σ) σ σ') (e0 : npS σ' = npS σ) (e2 : σ'.1.1 2 = σ.1.1 2) : TkI τ m σ' := by
  refine ⟨fun j hj => (h.1 j (by omega)).st k (by omega), ?_⟩
  rw [e2, h.2, e0]
  exact ifU_cg (fun i hi => (k.1 58 (Or.inl rfl) i hi).symm)
theorem TkI.nw (h : TkI τ m σ) (k : TsR m (npS σ) σ σ') (e0 : npS σ' = npS σ + 1) (e2 : σ'.1.1 2 = σ.1.1 2 + (if σ'.1.2.1 58 (40 * m + npS σ) = 14 then 1 else 0)) (hn : TkP τ m σ'.1.2.1 σ'.2.1.1 σ'.2.2.1 (coS σ') (npS σ)) : TkI τ m σ' := by
  refine ⟨fun j hj => ?_, ?_⟩
  · by_cases z : j = npS σ
    · rw [z]; exact hn
    · exact (h.1 j (by omega)).st k (by omega)
  · rw [e2, h.2, e0, ifU_cg (g := σ'.1.2.1 58) (fun i hi => (k.1 58 (Or.inl rfl) i hi).symm)]
    rfl
end
/-! a relation kept by every part as it begins, and by every other step -/
section
variable {b : Nat → Int32} {n m : Nat} {τ : Td}
theorem rp_gen2 (P : PS → PS → Prop) (rf : ∀ σ, P σ σ) (tr : ∀ σ σ1 σ2, P σ σ1 → P σ1 σ2 → P σ σ2) (hlf : ∀ k w pl q i (K : List KE) σ r, K.length ≤ 15 → (k = 2 → fd τ.2.2.2.1 w ≠ none) → opnK k = false → lfM b n m τ k w (npS σ) i K (bgP m k pl q K.length (whK k w τ) σ) = .ok r → P σ r.2.1) (hhd : ∀ k w pl q i (K : List KE) σ r, K.length ≤ 14 → opnK k = true → hdM b n m τ k (npS σ) i K (bgP m k pl q K.length (whK k w τ) σ) = .ok r → P σ r.2.1) (htl : ∀ k j aw lit x i o σ r, tlM b n m τ k j aw lit x i o σ = .ok r → P σ r.2.1) (hch : ∀ lit x y i σ r, chM b n lit x y i σ = .ok r → P σ r.2.1) (hmk : ∀ σ k, k ≠ 2 → P σ (trP1 σ (mkT (trS σ) k).1)) (hhg : ∀ σ a c, P σ (hgP σ a c)) (hgu : ∀ σ g u, P σ (guP σ g u)) (hpa : ∀ σ j, P σ (paP σ j 2 8)) (hrw : ∀ σ p q, P σ (rwP p q σ)) (hfi : ∀ σ j x, P σ (fiP m j x σ)) : ∀ (g md : Nat) (K : List KE) (i : Nat) (σ : PS) (a1 a2 a3 a4 : Nat) (c1 c2 : Int32) (r : Nat × PS × Nat), md ≤ 3 → K.length ≤ 15 → (md = 3 → K.length ≤ 14) → rp b n m τ g md K i σ a1 a2 a3 a4 c1 c2 = .ok r → P σ r.2.1 := by
  have hbr : ∀ σ j a x g u, P σ (brP σ j a x g u) := fun σ j a x g u => by
    unfold brP
    refine tr _ _ _ ?_ (hgu _ _ _)
    refine tr _ _ _ ?_ (hhg _ _ _)
    split
    · exact rf _
    · exact hpa _ _
  intro g
  induction g with
  | zero => intro md K i σ a1 a2 a3 a4 c1 c2 r _ _ _ e; unfold rp at e; cases e
  | succ g ih =>
    intro md K i σ a1 a2 a3 a4 c1 c2 r hm hK hK3 e
    by_cases m2 : md = 2
    · subst m2
      rw [rp_bd] at e
      obtain ⟨u0, eok, e⟩ := bind_ok e
      obtain ⟨i1, -, e⟩ := bind_ok e
      obtain ⟨u, eb, e⟩ := bind_ok e
      cases e
      refine tr _ _ _ ?_ (hfi u.2.1 (npS σ) u.2.2)
      have hw2 : tK b n i = 2 → fd τ.2.2.2.1 (tC b n i) ≠ none := fun z1 z2 => by
        unfold okK at eok
        rw [if_pos ⟨z1, z2⟩] at eok
        cases eok
      have h14 : opnK (tK b n i) = true → K.length ≤ 14 := fun z => by
        unfold okK at eok
        by_cases c1 : tK b n i = 2 ∧ fd τ.2.2.2.1 (tC b n i) = none
        · rw [if_pos c1] at eok; cases eok
        rw [if_neg c1] at eok
        by_cases c2 : soK (tK b n i) = 99
        · rw [if_pos c2] at eok; cases eok
        rw [if_neg c2] at eok
        by_cases c3 : 40 ≤ npS σ ∨ 24 < σ.1.1 1 + paK (tK b n i)
        · rw [if_pos c3] at eok; cases eok
        rw [if_neg c3] at eok
        by_cases c4 : opnK (tK b n i) = true ∧ K.length = 15
        · rw [if_pos c4] at eok; cases eok
        have : K.length ≠ 15 := fun q => c4 ⟨z, q⟩
        omega
      generalize tK b n i = k at eb hw2 h14
      generalize tC b n i = w at eb hw2
      unfold bdM at eb
      by_cases ko : opnK k = false
      · rw [if_pos ko] at eb
        exact hlf _ _ _ _ _ _ _ _ hK hw2 ko eb
      rw [if_neg ko] at eb
      have ko : opnK k = true := by
        cases q : opnK k with
        | false => exact absurd q ko
        | true => rfl
      have h14 := h14 ko
      obtain ⟨h, eh, eb⟩ := bind_ok eb
      have q2 := tr _ _ _ (hhd _ _ _ _ _ _ _ _ h14 ko eh) (hrw h.2.1 (40 * m + npS σ) none)
      by_cases k17 : k = 17
      · rw [if_pos k17] at eb
        obtain ⟨q, e1, eb⟩ := bind_ok eb
        cases eb
        exact tr _ _ _ (tr _ _ _ q2 (ih 3 _ _ _ _ _ _ _ _ _ q (by decide) hK (fun _ => h14) e1)) (hgu _ _ _)
      rw [if_neg k17] at eb
      obtain ⟨q, e1, eb⟩ := bind_ok eb
      have hq := tr _ _ _ q2 (ih 0 _ _ _ _ _ _ _ _ _ q (by decide) (by show K.length + 1 ≤ 15; omega) (fun z => absurd z (by decide)) e1)
      by_cases k4 : k = 44 ∨ k = 58
      · rw [if_pos k4] at eb
        by_cases k46 : tK b n q.1 = 46
        · rw [if_pos k46] at eb
          obtain ⟨i2, -, eb⟩ := bind_ok eb
          obtain ⟨t, e2, eb⟩ := bind_ok eb
          have ht := ih 0 _ _ _ _ _ _ _ _ _ t (by decide) (by show K.length + 1 ≤ 15; omega) (fun z => absurd z (by decide)) e2
          exact tr _ _ _ (tr _ _ _ (tr _ _ _ hq (hrw _ _ _)) ht) (hch _ _ _ _ _ _ eb)
        · rw [if_neg k46] at eb
          exact tr _ _ _ (tr _ _ _ hq (hmk q.2.1 0 (by decide))) (hch _ _ _ _ _ _ eb)
      rw [if_neg k4] at eb
      exact tr _ _ _ hq (htl _ _ _ _ _ _ _ _ _ eb)
    by_cases m0 : md = 0
    · subst m0
      unfold rp at e
      rw [if_pos rfl] at e
      obtain ⟨q, e1, e⟩ := bind_ok e
      have hq := tr _ _ _ (hmk σ 5 (by decide)) (ih 2 _ _ _ _ _ _ _ _ _ q (by decide) hK (fun z => absurd z (by decide)) e1)
      exact tr _ _ _ (tr _ _ _ hq (hhg _ _ _)) (ih 1 _ _ _ _ _ _ _ _ _ r (by decide) hK (fun z => absurd z (by decide)) e)
    by_cases m1 : md = 1
    · subst m1
      unfold rp at e
      rw [if_neg (by decide), if_pos rfl] at e
      by_cases h13 : tK b n i = 13
      · rw [if_pos h13] at e
        obtain ⟨j, -, e⟩ := bind_ok e
        obtain ⟨q, e1, e⟩ := bind_ok e
        have hq := ih 2 _ _ _ _ _ _ _ _ _ q (by decide) hK (fun z => absurd z (by decide)) e1
        exact tr _ _ _ (tr _ _ _ hq (hhg _ _ _)) (ih 1 _ _ _ _ _ _ _ _ _ r (by decide) hK (fun z => absurd z (by decide)) e)
      · rw [if_neg h13] at e; cases e; exact rf _
    · have m3 : md = 3 := by omega
      subst m3
      have h14 := hK3 rfl
      unfold rp at e
      rw [if_neg m0, if_neg m1, if_neg m2] at e
      obtain ⟨q, e1, e⟩ := bind_ok e
      have hq := tr _ _ _ (hgu σ 0 0) (ih 0 _ _ _ _ _ _ _ _ _ q (by decide) (by show K.length + 1 ≤ 15; omega) (fun z => absurd z (by decide)) e1)
      have bn := tr _ _ _ hq (hbr q.2.1 a2 a1 q.2.2 c1 c2)
      by_cases h6 : tK b n q.1 = 6
      · rw [if_pos h6] at e
        by_cases h8 : a4 = 8
        · rw [if_pos h8] at e; cases e
        rw [if_neg h8] at e
        obtain ⟨j, -, e⟩ := bind_ok e
        have h3 := ih 3 _ _ _ _ _ _ _ _ _ r (by decide) hK (fun _ => h14) e
        exact tr _ _ _ (tr _ _ _ bn (hrw _ _ _)) h3
      · rw [if_neg h6] at e
        obtain ⟨j, -, e⟩ := bind_ok e
        cases e
        exact bn
end
