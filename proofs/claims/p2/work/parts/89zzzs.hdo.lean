/-! heads of parts with rows: what their reading leaves in state and ghosts -/
section
variable {S : Nat} {sg : Nat → Nat} {N : Nt} {bf : Nat → Nat} {Y : List Cd} {Z : List Nat} {Ro : List (Nat × Nat)}
theorem smC.net {t : Nt} (h : smC S sg N bf Y Z) : smC S sg (N ++ t) bf Y Z := fun v sv bv hv => h v sv bv hv.pre
theorem ciC.fre {k x : Nat} (h : ciC S sg N bf Y Z Ro) (hk : k ≠ 0) : ciC S sg (frL N).1 bf Y Z (Ro ++ [(k, x)]) ∧ rlC (Ro ++ [(k, x)]) (2 * N.length) k x := by
  obtain ⟨⟨h1, h2, h3, h4⟩, h5, h6, h7⟩ := h
  have ln : (frL N).1.length = N.length + 1 := List.length_append
  refine ⟨⟨⟨h1.fre hk, by omega, fun s hs => (h3 s hs).app, fun s hs => (h4 s hs).app⟩, h5, fun i hi => ?_, h7.net⟩, by omega, ?_, ?_⟩
  · have := h6 i hi
    omega
  · rw [List.length_append]
    have := h1.1
    show 2 * N.length / 2 < Ro.length + 1
    omega
  · rw [show 2 * N.length / 2 = Ro.length by have := h1.1; omega]
    exact gdB
end
/-- what a head's reading comes to -/
def HdC (τ : Td) (m : Nat) (k : Int32) (j : Nat) (σ : PS) (γ : Gh) (σ' : PS) (lit : Nat) (im : Bool) (aw : Nat) (t : Option Int64) : Prop := ∃ γ', giT τ σ' γ' ∧ gfT noN noN σ γ σ' γ' ∧ (trS σ').2.1 = (trS σ).2.1 + hpK k ∧ (∀ x f, x ≠ j → σ'.2.1.1 x f = σ.2.1.1 x f) ∧ (∀ f, f ≤ 2 → σ'.2.1.1 j f = σ.2.1.1 j f) ∧ tpK k t
  ∧ (k = 44 ∨ k = 53 → CdW (woS τ m σ' γ') m σ'.2.2.2.length (40 * m + j) (Int32.ofNat lit))
  ∧ (k = 58 → (ifS σ').length = (ifS σ).length + 1 ∧ σ'.2.1.1 j 4 = Int32.ofNat (σ.1.1 2 - 1) ∧ (ifS σ').getD (ifS σ).length 0 = Int32.ofNat lit)
  ∧ (k ≠ 58 → ifS σ' = ifS σ)
  ∧ (k = 53 → σ'.1.2.1 61 (40 * m + j) = bI im ∧ awS (vwT (trS σ') γ'.1) (trS σ).1 (trS σ').1 aw (Int32.ofNat lit) im (trS σ).2.1)
  ∧ (k = 53 ∨ k = 17 → (trS σ).1 ≤ aw ∧ aw < (trS σ').1 ∧ (trS σ').2.2 9 aw = 0)
  ∧ (k = 17 → (trS σ').2.2 5 aw = 8 ∧ (trS σ').2.2 10 aw = 0 ∧ γ'.1 aw = [])
  ∧ (k = 49 ∨ k = 50 ∨ k = 52 ∨ k = 42 ∨ k = 55 → σ'.1.2.1 61 (40 * m + j) = σ.1.2.1 61 (40 * m + j))
section
variable {b : Nat → Int32} {n m : Nat} {τ : Td} {j i o : Nat} {σ σ1 : PS} {γ γ1 : Gh} {k : Int32} {K : List KE}
theorem hd_gi (hB : By b) (hv : HvT τ) {r : Nat × PS × Nat × Bool × Nat × Option Int64} (hT : (trS σ).1 ≤ 600) (hg : giT τ σ γ) (h61 : σ.1.2.1 61 (40 * m + j) = 0) (ho : opnK k = true) (e : hdM b n m τ k j i K σ = .ok r) : HdC τ m k j σ γ r.2.1 r.2.2.1 r.2.2.2.1 r.2.2.2.2.1 r.2.2.2.2.2 := by
  unfold hdM at e
  by_cases k44 : k = 44
  · rw [if_pos k44] at e
    obtain ⟨q, eq, e⟩ := bind_ok e
    obtain ⟨i2, -, e⟩ := bind_ok e
    cases e
    subst k44
    obtain ⟨γ1, g1, g2, g3, g4, ⟨a1, a2, a3, a4, a5, a6⟩, g6⟩ := co_gi hg eq
    exact ⟨γ1, g2, g3, by rw [a2]; rfl, fun _ _ _ => by rw [a1], fun _ _ => by rw [a1], (by unfold tpK; rw [if_neg (by decide), if_neg (by decide)]), fun _ => g4, fun z => absurd z (by decide), fun _ => a3, fun z => absurd z (by decide), fun z => absurd z (by decide), fun z => absurd z (by decide), fun z => absurd z (by decide)⟩
  rw [if_neg k44] at e
  by_cases k49 : k = 49
  · rw [if_pos k49] at e
    cases e
    subst k49
    exact ⟨γ, hg, gfT.rf, rfl, fun _ _ _ => rfl, fun _ _ => rfl, (by unfold tpK; rw [if_neg (by decide), if_pos (by decide)]), fun z => absurd z (by decide), fun z => absurd z (by decide), fun _ => rfl, fun z => absurd z (by decide), fun z => absurd z (by decide), fun z => absurd z (by decide), fun _ => rfl⟩
  rw [if_neg k49] at e
  by_cases k50 : k = 50
  · rw [if_pos k50] at e
    obtain ⟨i2, -, e⟩ := bind_ok e
    cases e
    subst k50
    exact ⟨γ, hg, gfT.rf, rfl, fun _ _ _ => rfl, fun _ _ => rfl, (by unfold tpK; rw [if_neg (by decide), if_pos (by decide)]), fun z => absurd z (by decide), fun z => absurd z (by decide), fun _ => rfl, fun z => absurd z (by decide), fun z => absurd z (by decide), fun z => absurd z (by decide), fun _ => rfl⟩
  rw [if_neg k50] at e
  by_cases k53 : k = 53
  · rw [if_pos k53] at e
    obtain ⟨q, eq, e⟩ := bind_ok e
    obtain ⟨i2, -, e⟩ := bind_ok e
    cases e
    subst k53
    obtain ⟨γ1, g1, g2, g3, g4, ⟨a1, a2, a3, a4, a5, a6⟩, g6⟩ := at_gi hg h61 eq
    obtain ⟨G1, nw, sh⟩ := W_aw (l := Int32.ofNat q.2.2.1) (im := q.2.2.2) g2.1 (by rw [a2]; omega)
    obtain ⟨u1, u2⟩ := gi_tr g2 nw
    obtain ⟨n1, n2, n3, -⟩ := nw.2.2.1
    have np := nw.2.2.2
    generalize (awT (trS q.2.1) (Int32.ofNat q.2.2.1) q.2.2.2) = R at u1 u2 n1 n2 n3 np sh
    rw [a2] at sh n1 np
    exact ⟨(G1, γ1.2), u1, g3.tr u2 (fun _ _ _ z => z) (fun _ _ _ z => z), np, fun _ _ _ => by show q.2.1.2.1.1 _ _ = _; rw [a1], fun _ _ => by show q.2.1.2.1.1 _ _ = _; rw [a1], (by unfold tpK; rw [if_neg (by decide), if_pos (by decide)]), fun _ => CdW_tr g4, fun z => absurd z (by decide), fun _ => a3, fun _ => ⟨g6, sh⟩, fun _ => ⟨n1, n2, n3⟩, fun z => absurd z (by decide), fun z => absurd z (by decide)⟩
  rw [if_neg k53] at e
  by_cases k55 : k = 55
  · rw [if_pos k55] at e
    by_cases t2 : tK b n i = 2
    · rw [if_pos t2] at e
      by_cases q2 : toT (tC b n i) τ = true ∨ (trW K (tC b n i)).isSome = true
      · rw [if_pos q2] at e; cases e
      rw [if_neg q2] at e
      obtain ⟨i2, -, e⟩ := bind_ok e
      obtain ⟨i3, -, e⟩ := bind_ok e
      cases e
      subst k55
      have kc : KcS σ ((σ.1.1, σ.1.2.1, va_up σ.1.2.2 (40 * m + j) (rV b n (tP b n i))), σ.2) := ⟨rfl, rfl, rfl, rfl, rfl⟩
      exact ⟨γ, kc.gi hg, kc.gf ⟨[], (List.append_nil _).symm⟩, rfl, fun _ _ _ => rfl, fun _ _ => rfl, (by unfold tpK; rw [if_pos rfl]; exact ⟨_, rfl, NmR.nz ⟨tP b n i, wdK_L hB (Or.inl t2), rfl, rfl⟩⟩), fun z => absurd z (by decide), fun z => absurd z (by decide), fun _ => rfl, fun z => absurd z (by decide), fun z => absurd z (by decide), fun z => absurd z (by decide), fun _ => rfl⟩
    · rw [if_neg t2] at e; cases e
  rw [if_neg k55] at e
  by_cases k58 : k = 58
  · rw [if_pos k58] at e
    obtain ⟨q, eq, e⟩ := bind_ok e
    by_cases kr : 7 ≤ tK b n q.1 ∧ tK b n q.1 ≤ 12
    · rw [if_pos kr] at e
      obtain ⟨i2, -, e⟩ := bind_ok e
      obtain ⟨u, eu, e⟩ := bind_ok e
      obtain ⟨i3, -, e⟩ := bind_ok e
      cases e
      subst k58
      obtain ⟨a1, a2, a3, a4⟩ := su_k hv (Or.inl rfl) eq
      obtain ⟨c1, c2, c3, c4⟩ := su_k hv (Or.inr rfl) eu
      have k0 : KcS σ (paP (paP σ j 3 3) j 4 (Int32.ofNat (σ.1.1 2 - 1))) := ⟨rfl, rfl, rfl, rfl, rfl⟩
      have k1 : KcS q.2 (paP (raP q.2 (up2 q.2.1.2.1 68 (40 * m + j) (tK b n q.1 - 7))) j 7 (tK b n q.1)) := ⟨rfl, rfl, rfl, rfl, rfl⟩
      have kc : KcS σ u.2 := (k0.tr a1).tr (k1.tr c1)
      have x2 : ∃ T, u.2.2.2.1 = σ.2.2.1 ++ T := apT (y := q.2.2.2.1) a2 c2
      have gu := kc.gi hg
      obtain ⟨v1, v2⟩ := ciC.fre (k := 5) (x := (ifS u.2).length) gu.2.1 (by decide)
      have pa4 : u.2.2.1.1 j 4 = Int32.ofNat (σ.1.1 2 - 1) := by
        rw [c4 4 (Or.inr rfl)]
        show up2 q.2.2.1.1 j 7 _ j 4 = _
        rw [up2_ne (fun z => absurd z.2 (by decide)), a4 4 (Or.inr rfl)]
        exact up2_eq
      have ln : (ifS u.2 ++ [Int32.ofNat (2 * u.2.2.1.2.2.1.length)]).length = (ifS u.2).length + 1 := List.length_append
      refine ⟨(γ.1, γ.2.1, γ.2.2 ++ [(5, (ifS u.2).length)]), ⟨gu.1, v1, fun f hf => ?_⟩, ?_, by show (trS u.2).2.1 = _; rw [kc.2.2.2.2]; rfl, fun x f h => ?_, fun f h => ?_, (by unfold tpK; rw [if_neg (by decide), if_neg (by decide)]), fun z => absurd z (by decide), fun _ => ⟨?_, pa4, ?_⟩, fun z => absurd rfl z, fun z => absurd z (by decide), fun z => absurd z (by decide), fun z => absurd z (by decide), fun z => absurd z (by decide)⟩
      · have hf : f < (ifS u.2 ++ [Int32.ofNat (2 * u.2.2.1.2.2.1.length)]).length := hf
        rw [ln] at hf
        show ∃ l, (ifS u.2 ++ [Int32.ofNat (2 * u.2.2.1.2.2.1.length)]).getD f 0 = _ ∧ rlC (γ.2.2 ++ _) l 5 f
        by_cases ef : f = (ifS u.2).length
        · subst ef
          rw [gdB]
          exact ⟨_, rfl, v2⟩
        · rw [gdA (by omega)]
          obtain ⟨l, l1, l2⟩ := gu.2.2 f (by omega)
          exact ⟨l, l1, l2.app⟩
      · refine ⟨by show TE (trS σ) (trS u.2) _ _ _ _; rw [kc.2.2.2.2]; exact TE.rf, ⟨[], (List.append_nil _).symm⟩, ⟨_, rfl⟩, ⟨[], by show u.2.2.2.2 = _; rw [kc.2.2.2.1, List.append_nil]⟩, ⟨[Int32.ofNat (2 * u.2.2.1.2.2.1.length)], ?_⟩, x2⟩
        show ifS u.2 ++ _ = ifS σ ++ _
        rw [kc.2.2.1]
      · show u.2.2.1.1 x f = _
        rw [c3 x f h]
        show up2 q.2.2.1.1 j 7 _ x f = _
        rw [up2_ne (fun z => h z.1), a3 x f h]
        show up2 (up2 σ.2.1.1 j 3 3) j 4 _ x f = _
        rw [up2_ne (fun z => h z.1), up2_ne (fun z => h z.1)]
      · show u.2.2.1.1 j f = _
        rw [c4 f (Or.inl h)]
        show up2 q.2.2.1.1 j 7 _ j f = _
        rw [up2_ne (fun z => by omega), a4 f (Or.inl h)]
        show up2 (up2 σ.2.1.1 j 3 3) j 4 _ j f = _
        rw [up2_ne (fun z => by omega), up2_ne (fun z => by omega)]
      · show (ifS u.2 ++ [Int32.ofNat (2 * u.2.2.1.2.2.1.length)]).length = _
        rw [ln, kc.2.2.1]
      · show (ifS u.2 ++ [Int32.ofNat (2 * u.2.2.1.2.2.1.length)]).getD (ifS σ).length 0 = _
        rw [← kc.2.2.1]
        exact gdB
    · rw [if_neg kr] at e; cases e
  rw [if_neg k58] at e
  by_cases k17 : k = 17
  · rw [if_pos k17] at e
    cases e
    subst k17
    obtain ⟨G1, nw, sh, -⟩ := W_mk (k := 8) hg.1 (by omega) (by decide)
    obtain ⟨u1, u2⟩ := gi_tr hg nw
    obtain ⟨n1, n2, n3, -⟩ := nw.2.2.1
    have np := nw.2.2.2
    generalize (mkT (trS σ) 8) = R at u1 u2 n1 n2 n3 np sh
    exact ⟨(G1, γ.2), u1, u2, np, fun _ _ _ => rfl, fun _ _ => rfl, (by unfold tpK; rw [if_neg (by decide), if_neg (by decide)]), fun z => absurd z (by decide), fun z => absurd z (by decide), fun _ => rfl, fun z => absurd z (by decide), fun _ => ⟨n1, n2, n3⟩, fun _ => ⟨sh.2.1, sh.2.2.1, sh.2.2.2⟩, fun z => absurd z (by decide)⟩
  rw [if_neg k17] at e
  cases e
  have hk : k = 42 ∨ k = 52 := by
    unfold opnK at ho
    simp only [Bool.or_eq_true, beq_iff_eq] at ho
    rcases ho with ((((((((z | z) | z) | z) | z) | z) | z) | z) | z)
    · exact Or.inl z
    · exact absurd z k44
    · exact absurd z k49
    · exact absurd z k50
    · exact Or.inr z
    · exact absurd z k53
    · exact absurd z k55
    · exact absurd z k58
    · exact absurd z k17
  have tp : tpK k none := by
    unfold tpK
    rw [if_neg k55, if_neg]
    rintro (z | z | z)
    · exact k49 z
    · exact k50 z
    · exact k53 z
  have h0 : hpK k = 0 := if_neg k53
  exact ⟨γ, hg, gfT.rf, by rw [h0]; rfl, fun _ _ _ => rfl, fun _ _ => rfl, tp, fun z => by rcases z with z | z; exact absurd z k44; exact absurd z k53, fun z => absurd z k58, fun _ => rfl, fun z => absurd z k53, fun z => by rcases z with z | z; exact absurd z k53; exact absurd z k17, fun z => absurd z k17, fun _ => rfl⟩
end
