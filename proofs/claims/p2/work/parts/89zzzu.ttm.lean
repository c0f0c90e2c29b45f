/-! readings as trees: more fuel, wider bounds; a child is hung -/
section
variable {W : Wo} {m zn fn lo hi zn' fn' lo' hi' : Nat}
theorem TT.mo : ∀ (g g' md : Nat) (K : List KE) (a2 a3 a4 : Nat) (c1 c2 : Int32) (fl : Bool) (j j' r r' p p' : Nat) (L : List (Nat × Nat)), g ≤ g' → TT W m zn fn lo hi g md K a2 a3 a4 c1 c2 fl j j' r r' p p' L → TT W m zn fn lo hi g' md K a2 a3 a4 c1 c2 fl j j' r r' p p' L := by
  intro g
  induction g with
  | zero => intro g' md K a2 a3 a4 c1 c2 fl j j' r r' p p' L _ h; unfold TT at h; exact h.elim
  | succ g ih =>
    intro g' md K a2 a3 a4 c1 c2 fl j j' r r' p p' L hle h
    cases g' with
    | zero => omega
    | succ g' =>
      have hle : g ≤ g' := by omega
      unfold TT at h ⊢
      by_cases m0 : md = 0
      · rw [if_pos m0] at h ⊢
        obtain ⟨x, jm, rm, pm, T, y, e, h1, h2, h3⟩ := h
        exact ⟨x, jm, rm, pm, T, y, e, ih _ _ _ _ _ _ _ _ _ _ _ _ _ _ _ _ hle h1, ih _ _ _ _ _ _ _ _ _ _ _ _ _ _ _ _ hle h2, h3⟩
      rw [if_neg m0] at h ⊢
      by_cases m1 : md = 1
      · rw [if_pos m1] at h ⊢
        rcases h with h | ⟨x, jm, rm, pm, T, e, h1, h2⟩
        · exact Or.inl h
        · exact Or.inr ⟨x, jm, rm, pm, T, e, ih _ _ _ _ _ _ _ _ _ _ _ _ _ _ _ _ hle h1, ih _ _ _ _ _ _ _ _ _ _ _ _ _ _ _ _ hle h2⟩
      rw [if_neg m1] at h ⊢
      by_cases m2 : md = 2
      · rw [if_pos m2] at h ⊢
        obtain ⟨k, x, ys, pb, ff, e1, e2, e3, e4, e5, h⟩ := h
        refine ⟨k, x, ys, pb, ff, e1, e2, e3, e4, e5, ?_⟩
        rcases h with h | ⟨h0, h1, T, h2, h3⟩ | ⟨h0, h1, h2, t, jm, rm, pm, y, h3, h4, h⟩
        · exact Or.inl h
        · exact Or.inr (Or.inl ⟨h0, h1, T, h2, ih _ _ _ _ _ _ _ _ _ _ _ _ _ _ _ _ hle h3⟩)
        · refine Or.inr (Or.inr ⟨h0, h1, h2, t, jm, rm, pm, y, h3, ih _ _ _ _ _ _ _ _ _ _ _ _ _ _ _ _ hle h4, ?_⟩)
          rcases h with h | ⟨q1, q2, q3, z, q4, q5⟩
          · exact Or.inl h
          · exact Or.inr ⟨q1, q2, q3, z, q4, ih _ _ _ _ _ _ _ _ _ _ _ _ _ _ _ _ hle q5⟩
      rw [if_neg m2] at h ⊢
      obtain ⟨jm, rm, pm, y, h1, h⟩ := h
      refine ⟨jm, rm, pm, y, ih _ _ _ _ _ _ _ _ _ _ _ _ _ _ _ _ hle h1, ?_⟩
      rcases h with h | ⟨T, f2, q1, q2, q3, q4⟩
      · exact Or.inl h
      · exact Or.inr ⟨T, f2, q1, q2, q3, ih _ _ _ _ _ _ _ _ _ _ _ _ _ _ _ _ hle q4⟩
theorem WSt.rf {j j' r r' : Nat} : WSt W W m zn fn lo hi j j' r r' := ⟨fun _ _ _ _ _ _ _ => rfl, fun _ _ _ => rfl, fun _ _ _ _ _ _ => rfl, fun _ _ _ _ => rfl, fun _ _ _ => rfl, fun _ _ _ => rfl, fun _ _ => rfl, fun _ _ _ h => h, fun _ _ => rfl, fun _ _ _ _ => ⟨rfl, rfl⟩⟩
theorem TT.wd {g g' md : Nat} {K : List KE} {a2 a3 a4 : Nat} {c1 c2 : Int32} {fl : Bool} {j j' r r' p p' : Nat} {L : List (Nat × Nat)} (h : TT W m zn fn lo hi g md K a2 a3 a4 c1 c2 fl j j' r r' p p' L) (hm : md ≤ 3) (hg : g ≤ g') (hz : zn ≤ zn') (hf : fn ≤ fn') (hl : lo' ≤ lo) (hh : hi ≤ hi') : TT W m zn' fn' lo' hi' g' md K a2 a3 a4 c1 c2 fl j j' r r' p p' L := TT.mo _ _ _ _ _ _ _ _ _ _ _ _ _ _ _ _ _ hg (TT.st hz hf hl hh _ _ _ _ _ _ _ _ _ _ _ _ _ _ _ _ hm h WSt.rf (fun _ => ⟨rfl, rfl, rfl⟩) (fun _ => ⟨fun _ _ _ => rfl, rfl⟩))
end
/-- a reading in a state's world -/
def TTs (τ : Td) (m : Nat) (σ : PS) (γ : Gh) (lo g md : Nat) (K : List KE) (a2 a3 a4 : Nat) (c1 c2 : Int32) (fl : Bool) (j j' r r' p p' : Nat) (L : List (Nat × Nat)) : Prop := TT (woS τ m σ γ) m σ.2.2.2.length (ifS σ).length lo (trS σ).1 g md K a2 a3 a4 c1 c2 fl j j' r r' p p' L
section
variable {τ : Td} {m : Nat} {σ σ1 : PS} {γ γ1 : Gh} {O H : Nat → Prop} {a c y : Nat}
theorem gfT.nd (h : gfT O H σ γ σ1 γ1) (hy : 1 ≤ y ∧ y < (trS σ).1) : ((trS σ1).2.2 5 y = (trS σ).2.2 5 y ∧ (trS σ1).2.2 10 y = (trS σ).2.2 10 y ∧ y < (trS σ1).1) ∧ (¬ O y → γ1.1 y = γ.1 y) ∧ (¬ H y → (trS σ1).2.2 9 y = (trS σ).2.2 9 y) := by
  have q := h.1.2 y hy.1 hy.2
  exact ⟨⟨q.1.1, q.1.2.1, Nat.lt_of_lt_of_le hy.2 h.1.1⟩, fun z => (q.2.1 z).1, q.2.2⟩
theorem gfT.len (h : gfT O H σ γ σ1 γ1) : (trS σ).1 ≤ (trS σ1).1 ∧ σ.2.2.2.length ≤ σ1.2.2.2.length ∧ (ifS σ).length ≤ (ifS σ1).length ∧ σ.2.2.1.length ≤ σ1.2.2.1.length := by
  obtain ⟨h1, -, -, ⟨V, h4⟩, ⟨U, h5⟩, ⟨T, h6⟩⟩ := h
  refine ⟨h1.1, ?_, ?_, ?_⟩
  · rw [h4, List.length_append]; omega
  · rw [h5, List.length_append]; omega
  · rw [h6, List.length_append]; omega
theorem hg_gi (hg : giT τ σ γ) (ha : 1 ≤ a ∧ a < (trS σ).1) (hc : 1 ≤ c ∧ c < (trS σ).1) (hne : a ≠ c) (ra : (trS σ).2.2 9 a = 0) (rc : (trS σ).2.2 9 c = 0) : ∃ γ1, giT τ (hgP σ a c) γ1 ∧ gfT (fun z => z = a) (fun z => z = c) σ γ (hgP σ a c) γ1 ∧ γ1.1 a = γ.1 a ++ [c] ∧ (trS (hgP σ a c)).1 = (trS σ).1 ∧ (trS (hgP σ a c)).2.1 = (trS σ).2.1 ∧ (trS (hgP σ a c)).2.2 9 a = 0 := by
  obtain ⟨t1, t2, t3, t4⟩ := hg.1.hg ha hc hne ra rc
  have q := t2.2 a ha.1 ha.2
  have r9 : (hgT (trS σ) a c).2.2 9 a = 0 := (q.2.2 hne).trans ra
  have e : hgP σ a c = trP1 σ (hgT (trS σ) a c) := rfl
  rw [e]
  generalize hgT (trS σ) a c = R at t1 t2 t3 t4 r9
  exact ⟨(va_up γ.1 a (γ.1 a ++ [c]), γ.2), ⟨t1, hg.2.1, hg.2.2⟩, ⟨t2, ⟨[], (List.append_nil _).symm⟩, ⟨[], (List.append_nil _).symm⟩, ⟨[], (List.append_nil _).symm⟩, ⟨[], (List.append_nil _).symm⟩, ⟨[], (List.append_nil _).symm⟩⟩, va_up_self _ _ _, t3, t4, r9⟩
/-- a reading stays, from state to state -/
theorem TTs.st {g g' md lo lo' : Nat} {K : List KE} {a2 a3 a4 : Nat} {c1 c2 : Int32} {fl : Bool} {j j' r r' p p' : Nat} {L : List (Nat × Nat)} (h : TTs τ m σ γ lo g md K a2 a3 a4 c1 c2 fl j j' r r' p p' L) (hm : md ≤ 3) (hgg : g ≤ g') (hl : lo' ≤ lo) (h4 : m < 4) (hg : giT τ σ γ) (hf : gfT O H σ γ σ1 γ1) (ha : AKp m j j' r r' σ σ1) (hX : σ.2.2.1.length < 900) (hs : ∀ k, j ≤ k → k < j' → SuI σ.1.2.1 σ.2.2.1 m 64 65 k ∧ SuI σ.1.2.1 σ.2.2.1 m 66 67 k) (h0 : 1 ≤ lo) (hO : ∀ y, lo ≤ y → y < (trS σ).1 → ¬ O y) (q0 : md = 0 → σ1.1.2.1 73 (sqK K) = σ.1.2.1 73 (sqK K) ∧ σ1.1.2.1 74 (sqK K) = σ.1.2.1 74 (sqK K) ∧ σ1.1.2.1 70 (40 * m + j) = σ.1.2.1 70 (40 * m + j)) (q3 : md = 3 → (∀ c, 73 ≤ c → c ≤ 75 → σ1.1.2.1 c a3 = σ.1.2.1 c a3) ∧ σ1.1.2.1 70 (40 * m + j) = σ.1.2.1 70 (40 * m + j)) : TTs τ m σ1 γ1 lo' g' md K a2 a3 a4 c1 c2 fl j j' r r' p p' L := by
  have l := hf.len
  exact TT.mo _ _ _ _ _ _ _ _ _ _ _ _ _ _ _ _ _ hgg (TT.st l.2.1 l.2.2.1 hl l.1 _ _ _ _ _ _ _ _ _ _ _ _ _ _ _ _ hm h (WSt.of h4 hg hf ha hX hs h0 (Nat.le_refl _) hO) q0 q3)
end
/-! what is proved of each piece of a reading -/
def PaF (B : Nat) (ex : Option Nat) (σ σ' : PS) : Prop := ∀ i f, i < B → (f = 2 → ex ≠ some i) → σ'.2.1.1 i f = σ.2.1.1 i f
def rtN (σ σ' : PS) (x : Nat) : Prop := (trS σ).1 ≤ x ∧ x < (trS σ').1 ∧ (trS σ').2.2 9 x = 0
def okN1 (σ : PS) (a : Nat) : Prop := (1 ≤ a ∧ a < (trS σ).1) ∧ (trS σ).2.2 9 a = 0
def P0T (τ : Td) (m : Nat) (K : List KE) (_ : Nat) (σ : PS) (r : Nat × PS × Nat) : Prop := ∀ γ, giT τ σ γ → (ifS σ).length = σ.1.1 2 → (trS r.2.1).1 ≤ 600 → r.2.1.2.2.1.length < 900 → σ.1.2.1 73 (sqK K) = -1 → ∃ γ' g, giT τ r.2.1 γ' ∧ gfT noN noN σ γ r.2.1 γ' ∧ (ifS r.2.1).length = r.2.1.1.1 2 ∧ PaF (npS σ) none σ r.2.1 ∧ rtN σ r.2.1 r.2.2 ∧ TTs τ m r.2.1 γ' (trS σ).1 g 0 K 0 0 0 0 0 false (npS σ) (npS r.2.1) (σ.1.1 4) (r.2.1.1.1 4) (trS σ).2.1 (trS r.2.1).2.1 [(0, r.2.2)]
def P2T (τ : Td) (m : Nat) (K : List KE) (_ : Nat) (σ : PS) (r : Nat × PS × Nat) : Prop := ∀ γ, giT τ σ γ → (ifS σ).length = σ.1.1 2 → (trS r.2.1).1 ≤ 600 → r.2.1.2.2.1.length < 900 → ∃ γ' g, giT τ r.2.1 γ' ∧ gfT noN noN σ γ r.2.1 γ' ∧ (ifS r.2.1).length = r.2.1.1.1 2 ∧ PaF (npS σ) none σ r.2.1 ∧ rtN σ r.2.1 r.2.2 ∧ TTs τ m r.2.1 γ' (trS σ).1 g 2 K 0 0 0 0 0 false (npS σ) (npS r.2.1) (σ.1.1 4) (r.2.1.1.1 4) (trS σ).2.1 (trS r.2.1).2.1 [(npS σ, r.2.2)]
def P1T (τ : Td) (m : Nat) (K : List KE) (_ : Nat) (σ : PS) (a1 : Nat) (r : Nat × PS × Nat) : Prop := ∀ γ x, giT τ σ γ → (ifS σ).length = σ.1.1 2 → (trS r.2.1).1 ≤ 600 → r.2.1.2.2.1.length < 900 → okN1 σ a1 → σ.1.2.1 73 (sqK K) ≠ -1 → x < 40 * m + npS σ → σ.1.2.1 74 (sqK K) = Int32.ofNat x → σ.1.2.1 70 x = -1 → ∃ γ' g T, giT τ r.2.1 γ' ∧ gfT (fun z => z = a1) noN σ γ r.2.1 γ' ∧ (ifS r.2.1).length = r.2.1.1.1 2 ∧ PaF (npS σ) none σ r.2.1 ∧ (r.2.2 = a1 ∧ okN1 r.2.1 a1) ∧ γ'.1 a1 = γ.1 a1 ++ T.map Prod.snd ∧ TTs τ m r.2.1 γ' (trS σ).1 g 1 K 0 0 0 0 0 false (npS σ) (npS r.2.1) (σ.1.1 4) (r.2.1.1.1 4) (trS σ).2.1 (trS r.2.1).2.1 T ∧ r.2.1.1.2.1 74 (sqK K) = Int32.ofNat ((T.map fun e => 40 * m + e.1).getLastD x) ∧ ChA r.2.1.1.2.1 x (T.map fun e => 40 * m + e.1)
def P3T (τ : Td) (m : Nat) (K : List KE) (_ : Nat) (σ : PS) (a1 a2 a3 a4 : Nat) (c1 c2 : Int32) (r : Nat × PS × Nat) : Prop := ∀ γ, giT τ σ γ → (ifS σ).length = σ.1.1 2 → (trS r.2.1).1 ≤ 600 → r.2.1.2.2.1.length < 900 → okN1 σ a1 → σ.1.2.1 73 a3 = -1 → σ.1.2.1 75 a3 = -1 → ∃ γ' g T fl, giT τ r.2.1 γ' ∧ gfT (fun z => z = a1) noN σ γ r.2.1 γ' ∧ (ifS r.2.1).length = r.2.1.1.1 2 ∧ PaF (npS σ) (some a2) σ r.2.1 ∧ (r.2.2 = a1 ∧ okN1 r.2.1 a1) ∧ γ'.1 a1 = γ.1 a1 ++ T.map Prod.snd ∧ TTs τ m r.2.1 γ' (trS σ).1 g 3 K a2 a3 a4 c1 c2 fl (npS σ) (npS r.2.1) (σ.1.1 4) (r.2.1.1.1 4) (trS σ).2.1 (trS r.2.1).2.1 T ∧ r.2.1.2.1.1 a2 2 = if fl = true then 8 else σ.2.1.1 a2 2
