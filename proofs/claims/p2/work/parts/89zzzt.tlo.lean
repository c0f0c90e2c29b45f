/-! behind a part's rows: what its tail leaves in state and ghosts -/
def TlC (τ : Td) (m : Nat) (k : Int32) (K : List KE) (j lo p x aw : Nat) (σ : PS) (γ : Gh) (σ' : PS) (y : Nat) : Prop := ∃ γ', giT τ σ' γ' ∧ gfT noN (fun z => z = x ∨ k = 53 ∧ z = aw) σ γ σ' γ' ∧ ((trS σ).1 ≤ y ∧ y < (trS σ').1 ∧ (trS σ').2.2 9 y = 0) ∧ (trS σ').2.1 = (trS σ).2.1 + (paK k - hpK k) ∧ PkS (woS τ m σ' γ') m σ'.2.2.2.length (ifS σ').length lo (trS σ').1 k K j p (trS σ).2.1 y [x] ∧ (∀ z f, z ≠ j → σ'.2.1.1 z f = σ.2.1.1 z f) ∧ (∀ f, f ≠ 2 → σ'.2.1.1 j f = σ.2.1.1 j f) ∧ (k ≠ 42 → σ'.2.1.1 j 2 = σ.2.1.1 j 2) ∧ (k = 42 → σ'.2.1.1 j 2 = if (trS σ).2.2 13 x &&& 1 = 0 then σ.2.1.1 j 2 else 7) ∧ ifS σ' = ifS σ
section
variable {b : Nat → Int32} {n m : Nat} {τ : Td} {j i o lo p x y aw lit : Nat} {σ σ1 : PS} {γ γ1 : Gh} {k : Int32} {K : List KE} {H : Nat → Prop}
theorem TlC.of {T : TrT} {G1 : Nat → List Nat} {q pz : Nat} (hg : giT τ σ1 γ1) (gf : gfT noN noN σ γ σ1 γ1) (e5 : trS σ1 = trS σ) (nw : NW (trS σ1) T γ1.1 G1 y H q pz) (hH : ∀ z, H z → z = x ∨ k = 53 ∧ z = aw) (ep : pz = paK k - hpK k) (hp : PkS (woS τ m (trP1 σ1 T) (G1, γ1.2)) m σ1.2.2.2.length (ifS σ1).length lo T.1 k K j p (trS σ1).2.1 y [x]) (p1 : ∀ z f, z ≠ j → σ1.2.1.1 z f = σ.2.1.1 z f) (p2 : ∀ f, f ≠ 2 → σ1.2.1.1 j f = σ.2.1.1 j f) (p3 : k ≠ 42 → σ1.2.1.1 j 2 = σ.2.1.1 j 2) (p4 : k = 42 → σ1.2.1.1 j 2 = if (trS σ).2.2 13 x &&& 1 = 0 then σ.2.1.1 j 2 else 7) (p5 : ifS σ1 = ifS σ) : TlC τ m k K j lo p x aw σ γ (trP1 σ1 T) y := by
  obtain ⟨g1, g2⟩ := gi_tr hg nw
  obtain ⟨n1, n2, n3, -⟩ := nw.2.2.1
  have gm : gfT noN (fun z => z = x ∨ k = 53 ∧ z = aw) σ γ σ1 γ1 := gf.more (fun _ _ _ z => z) (fun _ _ _ z => z.elim)
  refine ⟨(G1, γ1.2), g1, gm.tr g2 (fun _ _ _ z => z) (fun z _ _ hz => hH z hz), ⟨by rw [← e5]; exact n1, n2, n3⟩, ?_, ?_, p1, p2, p3, p4, p5⟩
  · show T.2.1 = _
    rw [nw.2.2.2, e5, ep]
  · rw [e5] at hp
    exact hp
theorem tl_gi {r : Nat × PS × Nat} (hT : (trS σ).1 ≤ 600) (hg : giT τ σ γ) (h61 : k = 49 ∨ k = 50 → σ.1.2.1 61 (40 * m + j) = 0) (hk : k = 42 ∨ k = 49 ∨ k = 50 ∨ k = 52 ∨ k = 53 ∨ k = 55) (hx : 1 ≤ x ∧ x < (trS σ).1) (rx : (trS σ).2.2 9 x = 0) (hlo : lo ≤ (trS σ).1) (h1 : 1 ≤ lo) (h53 : k = 53 → ((1 ≤ aw ∧ aw < (trS σ).1) ∧ (trS σ).2.2 9 aw = 0 ∧ x ≠ aw) ∧ CdW (woS τ m σ γ) m σ.2.2.2.length (40 * m + j) (Int32.ofNat lit) ∧ ∃ im, σ.1.2.1 61 (40 * m + j) = bI im ∧ awS (vwT (trS σ) γ.1) lo (trS σ).1 aw (Int32.ofNat lit) im p) (e : tlM b n m τ k j aw lit x i o σ = .ok r) : TlC τ m k K j lo p x aw σ γ r.2.1 r.2.2 := by
  unfold tlM at e
  by_cases k42 : k = 42
  · rw [if_pos k42] at e
    obtain ⟨i2, -, e⟩ := bind_ok e
    cases e
    subst k42
    obtain ⟨G1, nw, sh⟩ := W_wr (k := 6) hg.1 (by omega) (by decide) hx rx
    have pk : ∀ {σ1 : PS} {c : List Nat × List (Nat × Nat)} {zn fn pb : Nat}, PkS (woS τ m (trP1 σ1 (wrT (trS σ) 6 x).1) (G1, c)) m zn fn lo (wrT (trS σ) 6 x).1.1 42 K j p pb (wrT (trS σ) 6 x).2 [x] := by
      intro σ1 c zn fn pb
      unfold PkS
      rw [if_neg (by decide), if_neg (by decide), if_neg (by decide), if_neg (by decide), if_neg (by decide), if_neg (by decide), if_pos rfl, woV_tr]
      exact ⟨x, rfl, sh.st Sm.rf hlo (Nat.le_refl _)⟩
    by_cases h1 : (trS σ).2.2 13 x &&& 1 = 0
    · rw [if_pos h1]
      exact TlC.of hg gfT.rf rfl nw (fun z hz => Or.inl hz) (by decide) pk (fun _ _ _ => rfl) (fun _ _ => rfl) (fun z => absurd rfl z) (fun _ => by rw [if_pos h1]) rfl
    · rw [if_neg h1]
      have kc : KcS σ (paP σ j 2 7) := KcS.pa
      exact TlC.of (kc.gi hg) (kc.gf ⟨[], (List.append_nil _).symm⟩) rfl nw (fun z hz => Or.inl hz) (by decide) pk (fun z f hz => up2_ne (fun y => hz y.1)) (fun f hf => up2_ne (fun y => hf y.2)) (fun z => absurd rfl z) (fun _ => by rw [if_neg h1]; exact up2_eq) rfl
  rw [if_neg k42] at e
  by_cases k49 : k = 49
  · rw [if_pos k49] at e
    obtain ⟨i2, -, e⟩ := bind_ok e
    obtain ⟨q, eq, e⟩ := bind_ok e
    obtain ⟨i3, -, e⟩ := bind_ok e
    obtain ⟨γ1, g1, g2, g3, g4, ⟨a1, a2, a3, a4, a5, a6⟩, g6⟩ := at_gi hg (h61 (Or.inl k49)) eq
    obtain ⟨G1, nw, sh⟩ := W_ai (l := Int32.ofNat q.2.2.1) (im := q.2.2.2) (c := x) g2.1 (by rw [a2]; omega) (by rw [a2]; exact hx) (by rw [a2]; exact rx)
    have eF : q.2.2.2 = false → abF (trS q.2.1) x (Int32.ofNat q.2.2.1) q.2.2.2 = abT (trS q.2.1) x (Int32.ofNat q.2.2.1) := fun z => by rw [z]; exact if_neg Bool.false_ne_true
    have eT : q.2.2.2 = true → abF (trS q.2.1) x (Int32.ofNat q.2.2.1) q.2.2.2 = chT (mkT (abT (trS q.2.1) x (Int32.ofNat q.2.2.1)).1 0).1 (Int32.ofNat q.2.2.1) (mkT (abT (trS q.2.1) x (Int32.ofNat q.2.2.1)).1 0).2 (abT (trS q.2.1) x (Int32.ofNat q.2.2.1)).2 := fun z => by rw [z]; exact if_pos rfl
    have ee : r = (i3, trP1 q.2.1 (abF (trS q.2.1) x (Int32.ofNat q.2.2.1) q.2.2.2).1, (abF (trS q.2.1) x (Int32.ofNat q.2.2.1) q.2.2.2).2) := by
      by_cases hq : q.2.2.2 = true
      · rw [if_pos hq] at e
        rw [eT hq]
        generalize chT (mkT (abT (trS q.2.1) x (Int32.ofNat q.2.2.1)).1 0).1 (Int32.ofNat q.2.2.1) (mkT (abT (trS q.2.1) x (Int32.ofNat q.2.2.1)).1 0).2 (abT (trS q.2.1) x (Int32.ofNat q.2.2.1)).2 = R at e ⊢
        cases e
        rfl
      · rw [if_neg hq] at e
        rw [eF (by cases hz : q.2.2.2 with | true => exact absurd hz hq | false => rfl)]
        generalize abT (trS q.2.1) x (Int32.ofNat q.2.2.1) = R at e ⊢
        cases e
        rfl
    rw [ee]
    clear eF eT e ee
    generalize abF (trS q.2.1) x (Int32.ofNat q.2.2.1) q.2.2.2 = R at nw sh ⊢
    subst k49
    refine TlC.of g2 g3 a2 nw (fun z hz => Or.inl hz) (by decide) ?_ (fun _ _ _ => by rw [a1]) (fun _ _ => by rw [a1]) (fun _ => by rw [a1]) (fun z => absurd z (by decide)) a3
    unfold PkS
    rw [if_neg (by decide), if_neg (by decide), if_neg (by decide), if_neg (by decide), if_neg (by decide), if_neg (by decide), if_neg (by decide), if_neg (by decide), if_neg (by decide), if_pos rfl, woV_tr, woA_tr]
    exact ⟨x, _, _, rfl, CdW_tr g4, g6, sh.st Sm.rf (by rw [a2]; exact hlo) (Nat.le_refl _)⟩
  rw [if_neg k49] at e
  by_cases k50 : k = 50
  · rw [if_pos k50] at e
    obtain ⟨i2, -, e⟩ := bind_ok e
    obtain ⟨q, eq, e⟩ := bind_ok e
    obtain ⟨i3, -, e⟩ := bind_ok e
    obtain ⟨γ1, g1, g2, g3, g4, ⟨a1, a2, a3, a4, a5, a6⟩, g6⟩ := at_gi hg (h61 (Or.inr k50)) eq
    obtain ⟨G1, nw, sh⟩ := W_wk (l := Int32.ofNat q.2.2.1) (im := q.2.2.2) (c := x) g2.1 (by rw [a2]; omega) (by rw [a2]; exact hx) (by rw [a2]; exact rx)
    generalize wkT (trS q.2.1) x (Int32.ofNat q.2.2.1) q.2.2.2 = R at nw sh e ⊢
    cases e
    subst k50
    refine TlC.of g2 g3 a2 nw (fun z hz => Or.inl hz) (by decide) ?_ (fun _ _ _ => by rw [a1]) (fun _ _ => by rw [a1]) (fun _ => by rw [a1]) (fun z => absurd z (by decide)) a3
    unfold PkS
    rw [if_neg (by decide), if_neg (by decide), if_neg (by decide), if_neg (by decide), if_neg (by decide), if_neg (by decide), if_neg (by decide), if_neg (by decide), if_neg (by decide), if_neg (by decide), if_pos rfl, woV_tr, woA_tr]
    exact ⟨x, _, _, rfl, CdW_tr g4, g6, sh.st Sm.rf (by rw [a2]; exact hlo) (Nat.le_refl _)⟩
  rw [if_neg k50] at e
  by_cases k52 : k = 52
  · rw [if_pos k52] at e
    obtain ⟨i2, -, e⟩ := bind_ok e
    obtain ⟨q, eq, e⟩ := bind_ok e
    obtain ⟨i3, -, e⟩ := bind_ok e
    obtain ⟨γ1, g1, g2, g3, g4, ⟨a1, a2, a3, a4, a5, a6⟩, g6⟩ := co_gi hg eq
    obtain ⟨G1, nw, sh⟩ := W_su (l := Int32.ofNat q.2.2) (c := x) g2.1 (by rw [a2]; omega) (by rw [a2]; exact hx) (by rw [a2]; exact rx)
    generalize suT (trS q.2.1) x (Int32.ofNat q.2.2) = R at nw sh e ⊢
    cases e
    subst k52
    refine TlC.of g2 g3 a2 nw (fun z hz => Or.inl hz) (by decide) ?_ (fun _ _ _ => by rw [a1]) (fun _ _ => by rw [a1]) (fun _ => by rw [a1]) (fun z => absurd z (by decide)) a3
    unfold PkS
    rw [if_neg (by decide), if_neg (by decide), if_neg (by decide), if_neg (by decide), if_neg (by decide), if_neg (by decide), if_neg (by decide), if_neg (by decide), if_neg (by decide), if_neg (by decide), if_neg (by decide), if_pos rfl, woV_tr]
    exact ⟨x, _, rfl, CdW_tr g4, sh.st Sm.rf (by rw [a2]; exact hlo) (Nat.le_refl _)⟩
  rw [if_neg k52] at e
  by_cases k53 : k = 53
  · rw [if_pos k53] at e
    obtain ⟨i2, -, e⟩ := bind_ok e
    obtain ⟨⟨b1, b2, b3⟩, b4, im, b5, b6⟩ := h53 k53
    obtain ⟨G1, nw, sh⟩ := W_ev (l := Int32.ofNat lit) (c := x) (d := aw) hg.1 (by omega) hx rx b1 b2 b3
    generalize evT (trS σ) x aw (Int32.ofNat lit) = R at nw sh e ⊢
    cases e
    subst k53
    refine TlC.of hg gfT.rf rfl nw (fun z hz => hz.imp id (fun w => ⟨rfl, w⟩)) (by decide) ?_ (fun _ _ _ => rfl) (fun _ _ => rfl) (fun _ => rfl) (fun z => absurd z (by decide)) rfl
    unfold PkS
    rw [if_neg (by decide), if_neg (by decide), if_neg (by decide), if_neg (by decide), if_neg (by decide), if_neg (by decide), if_neg (by decide), if_neg (by decide), if_neg (by decide), if_neg (by decide), if_neg (by decide), if_neg (by decide), if_pos rfl, woV_tr, woA_tr]
    exact ⟨x, _, im, aw, rfl, CdW_tr b4, b5, b6.st (nw.sm h1 (Nat.le_refl _)) (Nat.le_refl _) nw.2.1.1, sh.st Sm.rf hlo (Nat.le_refl _)⟩
  rw [if_neg k53] at e
  have k55 : k = 55 := by
    rcases hk with z | z | z | z | z | z
    · exact absurd z k42
    · exact absurd z k49
    · exact absurd z k50
    · exact absurd z k52
    · exact absurd z k53
    · exact z
  obtain ⟨i2, -, e⟩ := bind_ok e
  obtain ⟨G1, nw, sh⟩ := W_wr (k := 9) hg.1 (by omega) (by decide) hx rx
  generalize wrT (trS σ) 9 x = R at nw sh e ⊢
  cases e
  subst k55
  refine TlC.of hg gfT.rf rfl nw (fun z hz => Or.inl hz) (by decide) ?_ (fun _ _ _ => rfl) (fun _ _ => rfl) (fun _ => rfl) (fun z => absurd z (by decide)) rfl
  unfold PkS
  rw [if_neg (by decide), if_neg (by decide), if_neg (by decide), if_neg (by decide), if_neg (by decide), if_neg (by decide), if_neg (by decide), if_neg (by decide), if_neg (by decide), if_neg (by decide), if_neg (by decide), if_neg (by decide), if_neg (by decide), if_pos rfl, woV_tr]
  exact ⟨x, rfl, sh.st Sm.rf hlo (Nat.le_refl _)⟩
/-- a choice is whole -/
theorem ch_gi {r : Nat × PS × Nat} (hT : (trS σ).1 ≤ 600) (hg : giT τ σ γ) (hx : 1 ≤ x ∧ x < (trS σ).1) (rx : (trS σ).2.2 9 x = 0) (hy : 1 ≤ y ∧ y < (trS σ).1) (ry : (trS σ).2.2 9 y = 0) (hne : x ≠ y) (e : chM b n lit x y i σ = .ok r) : ∃ T G1, r.2.1 = trP1 σ T ∧ NW (trS σ) T γ.1 G1 r.2.2 (fun z => z = x ∨ z = y) 1 0 ∧ ndS (vwT T G1) (trS σ).1 T.1 r.2.2 4 (Int32.ofNat lit) [x, y] := by
  unfold chM at e
  obtain ⟨i2, -, e⟩ := bind_ok e
  obtain ⟨G1, nw, sh⟩ := W_ch (l := Int32.ofNat lit) hg.1 (by omega) hx rx hy ry hne
  generalize chT (trS σ) (Int32.ofNat lit) x y = R at nw sh e
  cases e
  exact ⟨_, G1, rfl, nw, sh⟩
end
