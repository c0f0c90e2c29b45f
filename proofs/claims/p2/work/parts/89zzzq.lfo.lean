/-! leaves: what their reading leaves in state and ghosts -/
def noN : Nat → Prop := fun _ => False
section
variable {b : Nat → Int32} {n m : Nat} {τ : Td} {j i o : Nat} {σ σ1 : PS} {γ γ1 : Gh} {k : Int32} {K : List KE} {H : Nat → Prop}
theorem gi_tr {T : TrT} {G1 : Nat → List Nat} {x q p : Nat} (hg : giT τ σ γ) (nw : NW (trS σ) T γ.1 G1 x H q p) : giT τ (trP1 σ T) (G1, γ.2) ∧ gfT noN H σ γ (trP1 σ T) (G1, γ.2) := ⟨⟨nw.1, hg.2.1, hg.2.2⟩, nw.2.1, ⟨[], (List.append_nil _).symm⟩, ⟨[], (List.append_nil _).symm⟩, ⟨[], (List.append_nil _).symm⟩, ⟨[], (List.append_nil _).symm⟩, ⟨[], (List.append_nil _).symm⟩⟩
/-- a sum leaves all but its own fields -/
def SuK (j : Nat) (σ σ' : PS) : Prop := KcS σ σ' ∧ (∃ T, σ'.2.2.1 = σ.2.2.1 ++ T) ∧ (∀ x f, x ≠ j → σ'.2.1.1 x f = σ.2.1.1 x f) ∧ ∀ f, f ≤ 2 ∨ f = 4 → σ'.2.1.1 j f = σ.2.1.1 j f
theorem su_k (hv : HvT τ) {f1 f2 fo : Nat} (hf : fo = 5 ∨ fo = 6) {r : Nat × PS} (e : suM b n m τ j f1 f2 fo i o σ = .ok r) : SuK j σ r.2 := by
  obtain ⟨-, Y, -, hY, -⟩ := su_u hv e
  unfold suM at e
  obtain ⟨q, eq, e⟩ := bind_ok e
  cases e
  exact ⟨⟨rfl, rfl, rfl, rfl, rfl⟩, ⟨Y, hY⟩, fun x f h => up2_ne (fun z => h z.1), fun f h => up2_ne (fun z => by omega)⟩
theorem em_k (hv : HvT τ) {r : Nat × PS × Nat} (e : emM b n m τ k j i o σ = .ok r) : KcS σ r.2.1 ∧ (∃ T, r.2.1.2.2.1 = σ.2.2.1 ++ T) ∧ (∀ x f, x ≠ j → r.2.1.2.1.1 x f = σ.2.1.1 x f) ∧ (∀ f, f ≤ 2 → r.2.1.2.1.1 j f = σ.2.1.1 j f) ∧ r.2.1.1.2.1 60 (40 * m + j) = Int32.ofNat r.2.2 := by
  unfold emM at e
  by_cases k2 : tK b n i = 2
  · rw [if_pos k2] at e
    cases ef : fd τ.1 (tC b n i) with
    | none => rw [ef] at e; cases e
    | some s =>
      rw [ef] at e
      have e : (if τ.2.1.getD s 0 = 30 then (.error (4, tP b n i) : Except (Int32 × Nat) (Nat × PS × Nat)) else _) = .ok r := e
      by_cases k30 : τ.2.1.getD s 0 = 30
      · rw [if_pos k30] at e; cases e
      rw [if_neg k30] at e
      obtain ⟨i2, -, e⟩ := bind_ok e
      by_cases k0 : τ.2.2.1.getD s 0 = 0
      · rw [if_pos k0] at e
        by_cases kk : k = 40 ∧ tK b n i2 = 15
        · rw [if_pos kk] at e; cases e
        rw [if_neg kk] at e
        cases e
        exact ⟨⟨rfl, rfl, rfl, rfl, rfl⟩, ⟨[], (List.append_nil _).symm⟩, fun _ _ _ => rfl, fun _ _ => rfl, up2_eq⟩
      rw [if_neg k0] at e
      by_cases kk : k = 40 ∧ tK b n i2 = 15
      · rw [if_pos kk] at e
        by_cases o15 : o = 15
        · rw [if_pos o15] at e; cases e
        rw [if_neg o15] at e
        obtain ⟨i3, -, e⟩ := bind_ok e
        obtain ⟨q, eq, e⟩ := bind_ok e
        obtain ⟨i4, -, e⟩ := bind_ok e
        cases e
        obtain ⟨a1, a2, a3, a4⟩ := su_k hv (Or.inl rfl) eq
        obtain ⟨-, Y, -, -, -, eA⟩ := su_u hv eq
        refine ⟨KcS.tr (σ1 := paP (paP (raP σ (up2 σ.1.2.1 60 (40 * m + j) (Int32.ofNat s))) j 3 1) j 4 (Int32.ofNat s)) ⟨rfl, rfl, rfl, rfl, rfl⟩ a1, a2, fun x f h => ?_, fun f h => ?_, ?_⟩
        · rw [a3 x f h]
          show up2 (up2 σ.2.1.1 j 3 1) j 4 _ x f = _
          rw [up2_ne (fun z => h z.1), up2_ne (fun z => h z.1)]
        · rw [a4 f (Or.inl h)]
          show up2 (up2 σ.2.1.1 j 3 1) j 4 _ j f = _
          rw [up2_ne (fun z => by omega), up2_ne (fun z => by omega)]
        · rw [eA]
          show up2 (up2 (up2 σ.1.2.1 60 (40 * m + j) (Int32.ofNat s)) 64 _ _) 65 _ _ 60 (40 * m + j) = Int32.ofNat s
          rw [up2_ne (fun z => absurd z.1 (by decide)), up2_ne (fun z => absurd z.1 (by decide)), up2_eq]
      · rw [if_neg kk] at e; cases e
  · rw [if_neg k2] at e; cases e
/-- what a condition leaves -/
def CoK (m j : Nat) (σ σ' : PS) : Prop := σ'.2.1.1 = σ.2.1.1 ∧ trS σ' = trS σ ∧ ifS σ' = ifS σ ∧ σ'.2.2.1 = σ.2.2.1 ∧ σ'.1.1 = σ.1.1 ∧ ∀ c x, ¬ (61 ≤ c ∧ c ≤ 63) ∨ x ≠ 40 * m + j → σ'.1.2.1 c x = σ.1.2.1 c x
theorem co_gi {r : Nat × PS × Nat} (hg : giT τ σ γ) (e : coM b n m τ j i o σ = .ok r) : ∃ γ1, γ1.1 = γ.1 ∧ giT τ r.2.1 γ1 ∧ gfT noN noN σ γ r.2.1 γ1 ∧ CdW (woS τ m r.2.1 γ1) m r.2.1.2.2.2.length (40 * m + j) (Int32.ofNat r.2.2) ∧ CoK m j σ r.2.1 ∧ r.2.1.1.2.1 61 (40 * m + j) = σ.1.2.1 61 (40 * m + j) := by
  obtain ⟨t, D, V, h1, ⟨x1, x2, x3, x4, x5, x6, x7, x8⟩, h3, h4⟩ := co_ci hg.2.1 e
  have e6 : ifS r.2.1 = ifS σ := by unfold ifS; rw [x7]
  have hl : r.2.1.2.2.2.length = σ.2.2.2.length + V.length := by rw [x1, List.length_append]
  refine ⟨(γ.1, γ.2.1 ++ D, γ.2.2 ++ t), rfl, ⟨by rw [x6]; exact hg.1, h1, fun f hf => ?_⟩, ⟨by rw [x6]; exact TE.rf, ⟨D, rfl⟩, ⟨t, rfl⟩, ⟨V, x1⟩, ⟨[], by rw [e6, List.append_nil]⟩, ⟨[], by rw [x8, List.append_nil]⟩⟩, ⟨σ.2.2.2.length, r.2.1.2.2.2.length - 1, by omega, by omega, ?_, ?_, h3, ?_⟩, ⟨x5, x6, e6, x8, x3, fun c x hc => ?_⟩, ?_⟩
  · rw [e6] at hf ⊢
    obtain ⟨l, l1, l2⟩ := hg.2.2 f hf
    exact ⟨l, l1, l2.app⟩
  · show r.2.1.1.2.1 62 (40 * m + j) = _
    rw [x4, up2_ne (fun z => absurd z.1 (by decide)), up2_eq]
  · show r.2.1.1.2.1 63 (40 * m + j) = _
    rw [x4, up2_eq]
  · show Int32.ofNat r.2.2 = Int32.ofNat ((γ.2.1 ++ D).getD (r.2.1.2.2.2.length - 1) 0)
    rw [← h4]
  · rw [x4, up2_ne (fun z => by omega), up2_ne (fun z => by omega)]
  · rw [x4, up2_ne (fun z => absurd z.1 (by decide)), up2_ne (fun z => absurd z.1 (by decide))]
theorem at_gi {r : Nat × PS × Nat × Bool} (hg : giT τ σ γ) (h61 : σ.1.2.1 61 (40 * m + j) = 0) (e : atM b n m τ j i o σ = .ok r) : ∃ γ1, γ1.1 = γ.1 ∧ giT τ r.2.1 γ1 ∧ gfT noN noN σ γ r.2.1 γ1 ∧ CdW (woS τ m r.2.1 γ1) m r.2.1.2.2.2.length (40 * m + j) (Int32.ofNat r.2.2.1) ∧ CoK m j σ r.2.1 ∧ r.2.1.1.2.1 61 (40 * m + j) = bI r.2.2.2 := by
  unfold atM at e
  obtain ⟨q, eq, e⟩ := bind_ok e
  obtain ⟨u, eu, e⟩ := bind_ok e
  cases e
  by_cases hq : q.2 = true
  · rw [if_pos hq] at eu
    have kc : KcS σ (raP σ (up2 σ.1.2.1 61 (40 * m + j) 1)) := KcS.ra
    obtain ⟨γ1, g1, g2, g3, g4, ⟨k1, k2, k3, k4, k5, k6⟩, g6⟩ := co_gi (kc.gi hg) eu
    have gk : gfT noN noN σ γ (raP σ (up2 σ.1.2.1 61 (40 * m + j) 1)) γ := kc.gf ⟨[], (List.append_nil _).symm⟩
    refine ⟨γ1, g1, g2, gk.tr g3 (fun _ _ _ z => z) (fun _ _ _ z => z), g4, ⟨k1, k2, k3, k4, k5, fun c x hc => ?_⟩, ?_⟩
    · rw [k6 c x hc]
      exact up2_ne (fun z => by omega)
    · show u.2.1.1.2.1 61 (40 * m + j) = bI q.2
      rw [g6, hq]
      exact up2_eq
  · rw [if_neg hq] at eu
    obtain ⟨γ1, g1, g2, g3, g4, g5, g6⟩ := co_gi hg eu
    refine ⟨γ1, g1, g2, g3, g4, g5, ?_⟩
    show u.2.1.1.2.1 61 (40 * m + j) = bI q.2
    rw [g6, h61]
    cases hz : q.2 with
    | true => exact absurd hz hq
    | false => rfl
/-- what a leaf's reading comes to: node x -/
def LfC (τ : Td) (m : Nat) (k : Int32) (K : List KE) (j : Nat) (σ : PS) (γ : Gh) (σ' : PS) (x : Nat) : Prop := ∃ γ', giT τ σ' γ' ∧ gfT noN noN σ γ σ' γ' ∧ ((trS σ).1 ≤ x ∧ x < (trS σ').1 ∧ (trS σ').2.2 9 x = 0) ∧ (trS σ').2.1 = (trS σ).2.1 + paK k ∧ PkS (woS τ m σ' γ') m σ'.2.2.2.length (ifS σ').length (trS σ).1 (trS σ').1 k K j (trS σ).2.1 (trS σ).2.1 x [] ∧ (∀ x f, x ≠ j → σ'.2.1.1 x f = σ.2.1.1 x f) ∧ (∀ f, f ≤ 2 → σ'.2.1.1 j f = σ.2.1.1 j f) ∧ ifS σ' = ifS σ
theorem LfC.of {T : TrT} {G1 : Nat → List Nat} {x q p : Nat} (hg : giT τ σ1 γ1) (gf : gfT noN noN σ γ σ1 γ1) (e5 : trS σ1 = trS σ) (nw : NW (trS σ1) T γ1.1 G1 x noN q p) (ep : p = paK k) (hp : PkS (woS τ m (trP1 σ1 T) (G1, γ1.2)) m σ1.2.2.2.length (ifS σ1).length (trS σ1).1 T.1 k K j (trS σ1).2.1 (trS σ1).2.1 x []) (p1 : ∀ x f, x ≠ j → σ1.2.1.1 x f = σ.2.1.1 x f) (p2 : ∀ f, f ≤ 2 → σ1.2.1.1 j f = σ.2.1.1 j f) (p3 : ifS σ1 = ifS σ) : LfC τ m k K j σ γ (trP1 σ1 T) x := by
  obtain ⟨g1, g2⟩ := gi_tr hg nw
  obtain ⟨n1, n2, n3, -⟩ := nw.2.2.1
  refine ⟨(G1, γ1.2), g1, gf.tr g2 (fun _ _ _ z => z) (fun _ _ _ z => z), ⟨by rw [← e5]; exact n1, n2, n3⟩, ?_, ?_, p1, p2, p3⟩
  · show T.2.1 = _
    rw [nw.2.2.2, e5, ep]
  · rw [e5] at hp
    exact hp
end
