/-! the world of a reading's state, with its ghosts: children of nodes, literals of conditions, roles of nets -/
abbrev Gh : Type := (Nat → List Nat) × List Nat × List (Nat × Nat)
def ifS (σ : PS) : List Int32 := σ.2.1.2.2.2.2.1
def woS (τ : Td) (m : Nat) (σ : PS) (γ : Gh) : Wo := (σ.1.2.1, σ.2.1.1, vwT (trS σ) γ.1, (trS σ).2.2 13, (fun c => γ.2.1.getD c 0), (fun f c => WcR τ.1.length σ.2.2.2 f c), (fun f => (ifS σ).getD f 0), orF (gvK σ.1.2.1 m), orF (uvK σ.1.2.1 σ.2.2.1 m))
/-- state and ghosts go together -/
def giT (τ : Td) (σ : PS) (γ : Gh) : Prop := TG (trS σ) γ.1 ∧ cdI τ σ γ.2.1 γ.2.2 ∧ ∀ f, f < (ifS σ).length → ∃ l, (ifS σ).getD f 0 = Int32.ofNat l ∧ rlC γ.2.2 l 5 f
/-- what only grows -/
def gfT (O H : Nat → Prop) (σ : PS) (γ : Gh) (σ' : PS) (γ' : Gh) : Prop := TE (trS σ) (trS σ') γ.1 γ'.1 O H ∧ (∃ D, γ'.2.1 = γ.2.1 ++ D) ∧ (∃ t, γ'.2.2 = γ.2.2 ++ t) ∧ (∃ V, σ'.2.2.2 = σ.2.2.2 ++ V) ∧ (∃ U, ifS σ' = ifS σ ++ U) ∧ ∃ T, σ'.2.2.1 = σ.2.2.1 ++ T
/-- cells of parts j .. j' and of rows r .. r' as they were -/
def AKp (m j j' r r' : Nat) (σ σ' : PS) : Prop := (∀ c P, 58 ≤ c → c ≤ 72 → c ≠ 70 → 40 * m + j ≤ P → P < 40 * m + j' → σ'.1.2.1 c P = σ.1.2.1 c P) ∧ (∀ P, 40 * m + j < P → P < 40 * m + j' → σ'.1.2.1 70 P = σ.1.2.1 70 P) ∧ (∀ c q, 73 ≤ c → c ≤ 75 → r ≤ q → q < r' → σ'.1.2.1 c q = σ.1.2.1 c q) ∧ ∀ i f, j ≤ i → i < j' → σ'.2.1.1 i f = σ.2.1.1 i f
section
variable {τ : Td} {m j j' r r' lo hi : Nat} {σ σ1 σ2 : PS} {γ γ1 γ2 : Gh} {O O1 H H1 : Nat → Prop}
theorem AKp.rf : AKp m j j' r r' σ σ := ⟨fun _ _ _ _ _ _ _ => rfl, fun _ _ _ => rfl, fun _ _ _ _ _ _ => rfl, fun _ _ _ _ => rfl⟩
theorem AKp.tr (h : AKp m j j' r r' σ σ1) (k : AKp m j j' r r' σ1 σ2) : AKp m j j' r r' σ σ2 := ⟨fun c P z1 z2 z3 z4 z5 => (k.1 c P z1 z2 z3 z4 z5).trans (h.1 c P z1 z2 z3 z4 z5), fun P z1 z2 => (k.2.1 P z1 z2).trans (h.2.1 P z1 z2), fun c q z1 z2 z3 z4 => (k.2.2.1 c q z1 z2 z3 z4).trans (h.2.2.1 c q z1 z2 z3 z4), fun i f z1 z2 => (k.2.2.2 i f z1 z2).trans (h.2.2.2 i f z1 z2)⟩
theorem AKp.of (h1 : σ1.1.2.1 = σ.1.2.1) (h2 : σ1.2.1.1 = σ.2.1.1) : AKp m j j' r r' σ σ1 := ⟨fun c P _ _ _ _ _ => by rw [h1], fun P _ _ => by rw [h1], fun c q _ _ _ _ => by rw [h1], fun i f _ _ => by rw [h2]⟩
theorem AKp.hd {j0 : Nat} (h : Hd m j0 σ σ1) (hp : ∀ i f, i ≠ j0 → σ1.2.1.1 i f = σ.2.1.1 i f) (hj : j0 < j ∨ j' ≤ j0) : AKp m j j' r r' σ σ1 := ⟨fun c P _ _ _ z4 z5 => h.2.1 c P (Or.inr (Or.inr (by omega))), fun P _ _ => h.2.1 70 P (by omega), fun c q z1 _ _ _ => h.2.1 c q (by omega), fun i f z1 z2 => hp i f (by omega)⟩
theorem fi_A {j0 x c k : Nat} (h : ¬ (c = 71 ∧ k = 40 * m + j0)) : (fiP m j0 x σ).1.2.1 c k = σ.1.2.1 c k := by
  have e : (fiP m j0 x σ).1.2.1 = up2 σ.1.2.1 71 (40 * m + j0) (Int32.ofNat (40 * m + σ.1.1 0)) := rfl
  rw [e, up2_ne h]
theorem fi_P {j0 x i f : Nat} (h : ¬ (i = j0 ∧ f = 1)) : (fiP m j0 x σ).2.1.1 i f = σ.2.1.1 i f := by
  have e : (fiP m j0 x σ).2.1.1 = up2 σ.2.1.1 j0 1 (Int32.ofNat x) := rfl
  rw [e, up2_ne h]
theorem AKp.fi {j0 x : Nat} (hj : j0 < j ∨ j' ≤ j0) : AKp m j j' r r' σ (fiP m j0 x σ) := ⟨fun c P _ _ _ z4 z5 => fi_A (fun z => by omega), fun P _ _ => fi_A (fun z => absurd z.1 (by decide)), fun c q z1 _ _ _ => fi_A (fun z => by omega), fun i f z1 z2 => fi_P (fun z => by omega)⟩
theorem AKp.rs {p q : Nat} (hq : q < r ∨ r' ≤ q) (hr : r' ≤ σ.1.1 4) : AKp m j j' r r' σ (rwP p (some q) σ) := by
  obtain ⟨h1, h2, -⟩ := rs_lk (σ := σ) (p := p) (q := q)
  refine ⟨fun c P z1 z2 _ _ _ => ?_, fun P _ _ => h2 P, fun c y z1 z2 z3 z4 => h1 c y z1 z2 (by omega) (fun z => by omega), fun _ _ _ _ => rfl⟩
  show up2 (up2 (up2 (up2 σ.1.2.1 73 (σ.1.1 4) (-1)) 74 (σ.1.1 4) (-1)) 75 (σ.1.1 4) (-1)) 75 q (Int32.ofNat (σ.1.1 4)) c P = σ.1.2.1 c P
  rw [up2_ne (fun z => by omega), up2_ne (fun z => by omega), up2_ne (fun z => by omega), up2_ne (fun z => by omega)]
theorem AKp.pc {B B1 R q : Nat} (pv : Pv m B σ σ1) (fk : FrK σ.1.2.1 σ1.1.2.1 B1 R q) (hp : ∀ i f, j ≤ i → i < j' → σ1.2.1.1 i f = σ.2.1.1 i f) (hB : 40 * m + j' ≤ B) (hB1 : 40 * m + j' ≤ B1) (hR : r' ≤ R) (hq : q < r ∨ r' ≤ q) (h74 : σ.1.2.1 73 q ≠ -1 → ∀ P, 40 * m + j < P → P < 40 * m + j' → σ.1.2.1 74 q ≠ Int32.ofNat P) : AKp m j j' r r' σ σ1 := ⟨fun c P z1 z2 z3 z4 z5 => pv.2.2.1 c z1 z2 z3 P (by omega), fun P z1 z2 => fk.2 P (by omega) (fun z => h74 z P z1 z2), fun c y z1 z2 z3 z4 => fk.1 c y z1 z2 (by omega) (by omega), hp⟩
theorem gfT.rf : gfT O H σ γ σ γ := ⟨TE.rf, ⟨[], (List.append_nil _).symm⟩, ⟨[], (List.append_nil _).symm⟩, ⟨[], (List.append_nil _).symm⟩, ⟨[], (List.append_nil _).symm⟩, ⟨[], (List.append_nil _).symm⟩⟩
theorem apT {α : Type} {x y z : List α} (h : ∃ t, y = x ++ t) (k : ∃ t, z = y ++ t) : ∃ t, z = x ++ t := by
  obtain ⟨t, e⟩ := h
  obtain ⟨u, e2⟩ := k
  exact ⟨t ++ u, by rw [e2, e, List.append_assoc]⟩
theorem gfT.tr (h : gfT O H σ γ σ1 γ1) (k : gfT O1 H1 σ1 γ1 σ2 γ2) (hO : ∀ y, 1 ≤ y → y < (trS σ).1 → O1 y → O y) (hH : ∀ y, 1 ≤ y → y < (trS σ).1 → H1 y → H y) : gfT O H σ γ σ2 γ2 := ⟨h.1.tr k.1 hO hH, apT h.2.1 k.2.1, apT h.2.2.1 k.2.2.1, apT h.2.2.2.1 k.2.2.2.1, apT h.2.2.2.2.1 k.2.2.2.2.1, apT h.2.2.2.2.2 k.2.2.2.2.2⟩
theorem gfT.more (h : gfT O H σ γ σ1 γ1) (hO : ∀ y, 1 ≤ y → y < (trS σ).1 → O y → O1 y) (hH : ∀ y, 1 ≤ y → y < (trS σ).1 → H y → H1 y) : gfT O1 H1 σ γ σ1 γ1 := ⟨h.1.more hO hH, h.2⟩
/-- nothing of nets, conditions, ifs, tree has changed -/
def KcS (σ σ' : PS) : Prop := σ'.2.1.2.2.1 = σ.2.1.2.2.1 ∧ σ'.2.1.2.2.2.1 = σ.2.1.2.2.2.1 ∧ ifS σ' = ifS σ ∧ σ'.2.2.2 = σ.2.2.2 ∧ trS σ' = trS σ
theorem KcS.rf : KcS σ σ := ⟨rfl, rfl, rfl, rfl, rfl⟩
theorem KcS.tr (h : KcS σ σ1) (k : KcS σ1 σ2) : KcS σ σ2 := ⟨k.1.trans h.1, k.2.1.trans h.2.1, k.2.2.1.trans h.2.2.1, k.2.2.2.1.trans h.2.2.2.1, k.2.2.2.2.trans h.2.2.2.2⟩
theorem KcS.gi (h : KcS σ σ1) (g : giT τ σ γ) : giT τ σ1 γ := by
  obtain ⟨h1, h2, h3, h4, h5⟩ := h
  unfold giT cdI
  rw [h1, h2, h3, h4, h5]
  exact g
theorem KcS.gf (h : KcS σ σ1) (hX : ∃ T, σ1.2.2.1 = σ.2.2.1 ++ T) : gfT O H σ γ σ1 γ := by
  obtain ⟨h1, h2, h3, h4, h5⟩ := h
  refine ⟨by rw [h5]; exact TE.rf, ⟨[], (List.append_nil _).symm⟩, ⟨[], (List.append_nil _).symm⟩, ⟨[], by rw [h4, List.append_nil]⟩, ⟨[], by rw [h3, List.append_nil]⟩, hX⟩
theorem KcS.bg {k : Int32} {pl q d : Nat} {wh : Int32} : KcS σ (bgP m k pl q d wh σ) := ⟨rfl, rfl, rfl, rfl, rfl⟩
theorem KcS.rw {p : Nat} {q : Option Nat} : KcS σ (rwP p q σ) := ⟨rfl, rfl, rfl, rfl, rfl⟩
theorem KcS.gu {g u : Int32} : KcS σ (guP σ g u) := ⟨rfl, rfl, rfl, rfl, rfl⟩
theorem KcS.fi {x y : Nat} : KcS σ (fiP m x y σ) := ⟨rfl, rfl, rfl, rfl, rfl⟩
theorem KcS.pa {x y : Nat} {v : Int32} : KcS σ (paP σ x y v) := ⟨rfl, rfl, rfl, rfl, rfl⟩
theorem KcS.ra {A : Nat → Nat → Int32} : KcS σ (raP σ A) := ⟨rfl, rfl, rfl, rfl, rfl⟩
/-- worlds of two states are alike where what lies between has left all alone -/
theorem WSt.of (h4 : m < 4) (hg : giT τ σ γ) (hf : gfT O H σ γ σ1 γ1) (ha : AKp m j j' r r' σ σ1) (hX : σ.2.2.1.length < 900) (hs : ∀ k, j ≤ k → k < j' → SuI σ.1.2.1 σ.2.2.1 m 64 65 k ∧ SuI σ.1.2.1 σ.2.2.1 m 66 67 k) (h0 : 1 ≤ lo) (h1 : hi ≤ (trS σ).1) (hO : ∀ y, lo ≤ y → y < hi → ¬ O y) : WSt (woS τ m σ γ) (woS τ m σ1 γ1) m σ.2.2.2.length (ifS σ).length lo hi j j' r r' := by
  obtain ⟨f1, ⟨D, f2⟩, -, ⟨V, f4⟩, ⟨U, f5⟩, f6⟩ := hf
  have gk : GK m j j' σ σ1 := ⟨fun c k z1 z2 z3 z4 z5 => ha.1 c (40 * m + k) z1 (by omega) (by omega) (by omega) (by omega), f6⟩
  have gu := fun k h1 h2 => gu_st h4 hX gk ⟨h1, h2⟩ (hs k h1 h2).1 (hs k h1 h2).2
  refine ⟨ha.1, ha.2.1, ha.2.2.1, ha.2.2.2, f1.sm h0 h1 hO, f1.c13 h0 h1 hO, fun c hc => ?_, fun f c hc hq => ?_, fun f hf => ?_, fun x y h1 h2 => ⟨?_, ?_⟩⟩
  · show γ1.2.1.getD c 0 = γ.2.1.getD c 0
    rw [f2, gdA (by rw [hg.2.1.2.1]; exact hc)]
  · show WcR τ.1.length σ1.2.2.2 f c
    rw [f4]
    exact WcR.app hq hc
  · show (ifS σ1).getD f 0 = (ifS σ).getD f 0
    rw [f5, gdA hf]
  · exact orF_cg (fun z q1 q2 => (gu z (by omega) (by omega)).1)
  · exact orF_cg (fun z q1 q2 => (gu z (by omega) (by omega)).2.1)
end
