/-! what parts give and use: one part, from part to part -/
/-- part j, read from σ to σ': what it gives and uses has come to what is given and used -/
def GU (m j : Nat) (σ σ' : PS) : Prop := giS σ' = giS σ ||| gvK σ'.1.2.1 m j ∧ usS σ' = usS σ ||| uvK σ'.1.2.1 σ'.2.2.1 m j ∧ SuI σ'.1.2.1 σ'.2.2.1 m 64 65 j ∧ SuI σ'.1.2.1 σ'.2.2.1 m 66 67 j
/-- parts j to j': on top of g and u -/
def GR (m j j' : Nat) (σ : PS) (g u : Int32) : Prop := giS σ = g ||| orF (gvK σ.1.2.1 m) j j' ∧ usS σ = u ||| orF (uvK σ.1.2.1 σ.2.2.1 m) j j' ∧ ∀ k, j ≤ k → k < j' → SuI σ.1.2.1 σ.2.2.1 m 64 65 k ∧ SuI σ.1.2.1 σ.2.2.1 m 66 67 k
/-- parts j to j' stay as they are, sums only come -/
def GK (m j j' : Nat) (σ σ' : PS) : Prop := (∀ c k, 58 ≤ c → c ≤ 68 → ¬ (61 ≤ c ∧ c ≤ 63) → j ≤ k → k < j' → σ'.1.2.1 c (40 * m + k) = σ.1.2.1 c (40 * m + k)) ∧ ∃ Y, σ'.2.2.1 = σ.2.2.1 ++ Y
section
variable {m j j1 j' k : Nat} {σ σ1 σ2 : PS} {g u : Int32}
theorem gu_st (h4 : m < 4) (hX : σ.2.2.1.length < 900) (h : GK m j j' σ σ1) (hk : j ≤ k ∧ k < j') (s1 : SuI σ.1.2.1 σ.2.2.1 m 64 65 k) (s2 : SuI σ.1.2.1 σ.2.2.1 m 66 67 k) : gvK σ1.1.2.1 m k = gvK σ.1.2.1 m k ∧ uvK σ1.1.2.1 σ1.2.2.1 m k = uvK σ.1.2.1 σ.2.2.1 m k ∧ SuI σ1.1.2.1 σ1.2.2.1 m 64 65 k ∧ SuI σ1.1.2.1 σ1.2.2.1 m 66 67 k := by
  obtain ⟨h1, Y, h2⟩ := h
  have e := fun c z1 z2 z3 => h1 c k z1 z2 z3 hk.1 hk.2
  have q1 := usI_st (A' := σ1.1.2.1) (Y := Y) h4 hX s1 (e 64 (by decide) (by decide) (by decide)) (e 65 (by decide) (by decide) (by decide))
  have q2 := usI_st (A' := σ1.1.2.1) (Y := Y) h4 hX s2 (e 66 (by decide) (by decide) (by decide)) (e 67 (by decide) (by decide) (by decide))
  rw [← h2] at q1 q2
  refine ⟨?_, ?_, q1.2, q2.2⟩
  · unfold gvK; rw [e 58 (by decide) (by decide) (by decide), e 60 (by decide) (by decide) (by decide)]
  · unfold uvK; rw [q1.1, q2.1]
theorem GR.rf : GR m j j σ (giS σ) (usS σ) := ⟨by rw [orF_rf, Int32.or_zero], by rw [orF_rf, Int32.or_zero], fun k h1 h2 => by omega⟩
theorem GR.one (h : GU m j σ σ1) : GR m j (j + 1) σ1 (giS σ) (usS σ) := ⟨by rw [orF_one]; exact h.1, by rw [orF_one]; exact h.2.1, fun k h1 h2 => by
  have : k = j := by omega
  rw [this]; exact h.2.2⟩
/-- one after the other -/
theorem GR.tr (h4 : m < 4) (hX : σ.2.2.1.length < 900) (h : GR m j j1 σ g u) (kp : GK m j j1 σ σ1) (l : GR m j1 j' σ1 (giS σ) (usS σ)) (h1 : j ≤ j1) (h2 : j1 ≤ j') : GR m j j' σ1 g u := by
  obtain ⟨a1, a2, a3⟩ := h
  obtain ⟨b1, b2, b3⟩ := l
  have st := fun k z1 z2 => gu_st h4 hX kp ⟨z1, z2⟩ (a3 k z1 z2).1 (a3 k z1 z2).2
  refine ⟨?_, ?_, fun k z1 z2 => ?_⟩
  · rw [b1, a1, orF_tr h1 h2, Int32.or_assoc, orF_cg (f := gvK σ1.1.2.1 m) (g := gvK σ.1.2.1 m) (fun z z1 z2 => (st z z1 z2).1)]
  · rw [b2, a2, orF_tr h1 h2, Int32.or_assoc, orF_cg (f := uvK σ1.1.2.1 σ1.2.2.1 m) (g := uvK σ.1.2.1 σ.2.2.1 m) (fun z z1 z2 => (st z z1 z2).2.1)]
  · by_cases z : k < j1
    · exact (st k z1 z).2.2
    · exact b3 k (by omega) z2
/-- the same, other base -/
theorem GR.ba {σ' : PS} (h : GR m j j' σ g u) (e1 : giS σ' = giS σ) (e2 : usS σ' = usS σ) (e3 : σ'.1.2.1 = σ.1.2.1) (e4 : σ'.2.2.1 = σ.2.2.1) : GR m j j' σ' g u := by
  obtain ⟨a1, a2, a3⟩ := h
  exact ⟨by rw [e1, e3]; exact a1, by rw [e2, e3, e4]; exact a2, by rw [e3, e4]; exact a3⟩
theorem GK.rf : GK m j j' σ σ := ⟨fun _ _ _ _ _ _ _ => rfl, [], (List.append_nil _).symm⟩
theorem GK.tr (h : GK m j j' σ σ1) (k : GK m j j' σ1 σ2) : GK m j j' σ σ2 := by
  obtain ⟨h1, Y, h2⟩ := h
  obtain ⟨k1, Z, k2⟩ := k
  exact ⟨fun c x z1 z2 z3 z4 z5 => (k1 c x z1 z2 z3 z4 z5).trans (h1 c x z1 z2 z3 z4 z5), Y ++ Z, by rw [k2, h2, List.append_assoc]⟩
theorem GK.less {a b' : Nat} (h : GK m j j' σ σ1) (h1 : j ≤ a) (h2 : b' ≤ j') : GK m a b' σ σ1 := ⟨fun c x z1 z2 z3 z4 z5 => h.1 c x z1 z2 z3 (by omega) (by omega), h.2⟩
theorem GK.len (h : GK m j j' σ σ1) : σ.2.2.1.length ≤ σ1.2.2.1.length := by
  obtain ⟨-, Y, h2⟩ := h
  rw [h2, List.length_append]; omega
/-- a part without sums that gives nothing -/
theorem GU.no (h58 : σ1.1.2.1 58 (40 * m + j) ≠ 15) (h65 : σ1.1.2.1 65 (40 * m + j) = -1) (h67 : σ1.1.2.1 67 (40 * m + j) = -1) (e1 : giS σ1 = giS σ) (e2 : usS σ1 = usS σ) : GU m j σ σ1 := by
  refine ⟨?_, ?_, Or.inl h65, Or.inl h67⟩
  · unfold gvK; rw [if_neg h58, Int32.or_zero]; exact e1
  · unfold uvK usI; rw [if_pos h65, if_pos h67, Int32.or_zero, Int32.or_zero]; exact e2
/-- a sum that was just read is what lies between its ends -/
theorem usI_new {A : Nat → Nat → Int32} {X Y Z : List Nd} {c1 c2 : Nat} (h4 : m < 4) (hX : X.length + Y.length < 900) (hY : NeY X Y) (e1 : A c1 (40 * m + j) = Int32.ofNat (810 * m + X.length)) (e2 : A c2 (40 * m + j) = Int32.ofNat (810 * m + (X.length + Y.length - 1))) : usI A (X ++ Y ++ Z) m c1 c2 j = usX Y ∧ SuI A (X ++ Y ++ Z) m c1 c2 j := by
  unfold usI
  have hY1 := hY.1
  refine ⟨?_, Or.inr ⟨X.length, X.length + Y.length - 1, by omega, by rw [List.length_append, List.length_append]; omega, e1, e2, hY.2.app⟩⟩
  rw [e1, e2, if_neg (nm32 (by omega)), lt32 (by omega), lt32 (by omega)]
  have e3 : 810 * m + X.length - 810 * m = X.length := by omega
  have e4 : 810 * m + (X.length + Y.length - 1) + 1 - (810 * m + X.length) = Y.length := by omega
  rw [e3, e4, List.append_assoc, List.drop_left, List.take_left]
/-- what changes neither masks nor these cells nor sums -/
theorem GR.tl (h4 : m < 4) (hX : σ.2.2.1.length < 900) (h : GR m j j' σ g u) (kp : GK m j j' σ σ1) (e1 : giS σ1 = giS σ) (e2 : usS σ1 = usS σ) (hj : j ≤ j') : GR m j j' σ1 g u := by
  have r := GR.rf (m := m) (j := j') (σ := σ1)
  rw [e1, e2] at r
  exact h.tr h4 hX kp r hj (Nat.le_refl _)
end
