section
/-! the reference: branches -/
section
variable {b : Nat → Int32} {n s m : Nat} {τ : Td} {K : List KE} {σ : PS} {M M' : Mem} {i o h g : Nat} {Q : Option Value → Mem → Prop}
theorem RPs.cg {σ' : PS} (hR : RPs b n s m τ K σ M i o) (h1 : σ'.1 = σ.1) (h2 : σ'.2.2 = σ.2.2) : RPs b n s m τ K σ' M i o := by
  obtain ⟨c1, c2, c3, c4, c5, ⟨d1, d2, d3, d4, d5, d6, d7⟩, c7⟩ := hR
  refine ⟨c1, c2, c3, c4, c5, ⟨by rw [h2]; exact d1, by rw [h2]; exact d2, by rw [h1]; exact d3, by rw [h1]; exact d4, by rw [h1]; exact d5, by rw [h1]; exact d6, d7⟩, by rw [h2]; exact c7⟩
theorem br_2 {j a x : Nat} {g u : Int32} : (brP σ j a x g u).2.2 = σ.2.2 := by
  unfold brP
  split <;> rfl
theorem rw_cg {σ' : PS} {p : Nat} {q0 : Option Nat} (h1 : σ'.1 = σ.1) : (rwP p q0 σ').1 = (rwP p q0 σ).1 := by
  unfold rwP
  rw [h1]
theorem R_branch {a1 a2 a3 a4 : Nat} {c1 c2 : Int32} (hB : By b) (hz : ∀ i, n ≤ i → b i = 0) (hS : Sto b n s) (ih : RpS b n s m τ h Q g) (hR : RPs b n s m τ ((40 * m + a2, a3, a4, none) :: K) σ M i (K.length + 1)) (h0 : tK b n i ≠ 0) (hI : RpI m 3 K σ a2 a3) (hN : KNm b n m σ ((40 * m + a2, a3, a4, none) :: K)) (h16 : σ.1.2.1 58 (40 * m + a2) = 16 ∧ σ.1.2.1 69 (40 * m + a2) ≠ -1 ∧ 1 ≤ a4 ∧ a4 ≤ 8) (hg : 6 * (s + 1 - i) + 2 ≤ g + 1) (hE : EndZ b n s m τ K 3 a2 h M Q (rp b n m τ (g + 1) 3 K i σ a1 a2 a3 a4 c1 c2)) : SLp h Q M := by
  obtain ⟨hP, hK, -, h3, -, hc⟩ := hI
  obtain ⟨g1, g2, g3⟩ := h3 rfl
  have h40 := hP.1
  unfold rp at hE
  rw [if_neg (show ¬ (3 : Nat) = 0 by decide), if_neg (show ¬ (3 : Nat) = 1 by decide), if_neg (show ¬ (3 : Nat) = 2 by decide)] at hE
  have I0 : RpI m 0 ((40 * m + a2, a3, a4, none) :: K) (guP σ 0 0) 0 0 := ⟨hP, by show K.length + 1 ≤ 15; omega, fun _ => g2, fun z => absurd z (by decide), fun z => absurd z (by decide), hc⟩
  have ok0 := rp_ok (τ := τ) (m := m) hS g 0 ((40 * m + a2, a3, a4, none) :: K) i (guP σ 0 0) 0 0 0 0 0 0 (by decide) hR.2.1.2.2 h0 I0
  have r0 := ih 0 ((40 * m + a2, a3, a4, none) :: K) i (guP σ 0 0) 0 0 0 0 0 0 M (by decide) h0 I0 hN (fun z => absurd z (by decide)) (hR.cg rfl rfl) (by rw [w0]; omega)
  refine r0 ?_
  cases e : rp b n m τ g 0 ((40 * m + a2, a3, a4, none) :: K) i (guP σ 0 0) 0 0 0 0 0 0 with
  | error y => rw [e] at hE; exact hE
  | ok r =>
    rw [e] at hE ok0
    obtain ⟨k1, k2, k3, ⟨p1, p2, p3, p4⟩, k5⟩ := ok0
    have k5 := k5 (by decide)
    have p1 : Pv m (40 * m + npS σ) (guP σ 0 0) r.2.1 := p1
    have hE : EndZ b n s m τ K 3 a2 h M Q (if tK b n r.1 = 6 then (if a4 = 8 then .error (6, tP b n r.1) else (adv' b n r.1).bind fun j => rp b n m τ g 3 K j (rwP (40 * m + a2) (some a3) (brP r.2.1 a2 a1 r.2.2 c1 c2)) a1 a2 (r.2.1.1.1 4) (a4 + 1) (c1 ||| giS r.2.1) (c2 ||| usS r.2.1))
      else (ex b n r.1 18).bind fun j => .ok (j, brP r.2.1 a2 a1 r.2.2 c1 c2, a1)) := hE
    intro M1 R1 G1 n13
    have R1 : RPs b n s m τ ((40 * m + a2, a3, a4, none) :: K) r.2.1 M1 r.1 (K.length + 1) := R1
    have n13 := n13 (by decide)
    have x58 : r.2.1.1.2.1 58 (40 * m + a2) = 16 := (p1.2.2.1 58 (by decide) (by decide) (by decide) (40 * m + a2) (by omega)).trans h16.1
    have x69 : r.2.1.1.2.1 69 (40 * m + a2) ≠ -1 := by rw [p1.2.2.1 69 (by decide) (by decide) (by decide) (40 * m + a2) (by omega)]; exact h16.2.1
    have hn : npS σ ≤ npS r.2.1 := p1.1
    have h40' := p2.1
    have bn := br_n (σ := r.2.1) (j := a2) (a := a1) (x := r.2.2) (g := c1) (u := c2)
    refine R_behind (e := (40 * m + a2, a3, a4, none)) (j := a2) R1 hB n13 (by omega) rfl g1 ?_
    refine P_goAll (h := h + 8) (e := (40 * m + a2, a3, a4, none)) R1 hB hz hS k3 (by omega) (by omega) x58 h16.2.2.2 (fun q6 n8 => ?_) (fun q6 y8 => ?_) (fun n6 => ?_)
    · rw [if_pos q6, if_neg (show ¬ a4 = 8 from n8)] at hE
      have hs := hS.lt k2 k3 (by rw [q6]; decide)
      refine ⟨fun j1 M2 R2 G2 => Or.inr (Or.inr ⟨r.2.1, r.1 + 1, rfl, R2, ⟨by omega, by show a3 < 100; omega, x69⟩, fun M3 R3 G3 => ?_⟩), fun j1 M2 T2 G2 => Or.inl ⟨_, _, rfl, T2, ?_⟩⟩
      · rw [adv_ok' j1] at hE
        have hE : EndZ b n s m τ K 3 a2 h M Q (rp b n m τ g 3 K (r.1 + 1) (rwP (40 * m + a2) (some a3) (brP r.2.1 a2 a1 r.2.2 c1 c2)) a1 a2 (r.2.1.1.1 4) (a4 + 1) (c1 ||| giS r.2.1) (c2 ||| usS r.2.1)) := hE
        obtain ⟨x1, x2, x3⟩ := rw_n (σ := brP r.2.1 a2 a1 r.2.2 c1 c2) (p := 40 * m + a2) (q0 := some a3)
        have bnp : npS (brP r.2.1 a2 a1 r.2.2 c1 c2) = npS r.2.1 := by unfold npS; rw [bn.1]
        have e4 : (brP r.2.1 a2 a1 r.2.2 c1 c2).1.1 4 = r.2.1.1.1 4 := by rw [bn.1]
        have pw : Pv m (40 * m + npS σ) σ (rwP (40 * m + a2) (some a3) (brP r.2.1 a2 a1 r.2.2 c1 c2)) := ((Pv.gu.tr p1).tr Pv.br).tr (Pv.rw (fun z => by cases z))
        have y58 := (pw.2.2.1 58 (by decide) (by decide) (by decide) (40 * m + a2) (by omega)).trans h16.1
        have y69 : (rwP (40 * m + a2) (some a3) (brP r.2.1 a2 a1 r.2.2 c1 c2)).1.2.1 69 (40 * m + a2) ≠ -1 := by rw [pw.2.2.1 69 (by decide) (by decide) (by decide) (40 * m + a2) (by omega)]; exact h16.2.1
        have R3 : RPs b n s m τ ((40 * m + a2, r.2.1.1.1 4, a4 + 1, none) :: K) (rwP (40 * m + a2) (some a3) r.2.1) M3 (r.1 + 1) (K.length + 1) := R3
        have kn : KNm b n m (rwP (40 * m + a2) (some a3) (brP r.2.1 a2 a1 r.2.2 c1 c2)) ((40 * m + a2, r.2.1.1.1 4, a4 + 1, none) :: K) := by
          intro e' he'
          rcases List.mem_cons.mp he' with z | z
          · rw [z]
            exact ⟨⟨Nat.le_add_right _ _, by show 40 * m + a2 < 40 * m + _; rw [x1, bnp]; omega⟩, Or.inr ⟨Or.inl rfl, by rw [y58]; decide⟩⟩
          · exact (hN.pv pw) e' (List.mem_cons_of_mem _ z)
        have r3 := ih 3 K (r.1 + 1) (rwP (40 * m + a2) (some a3) (brP r.2.1 a2 a1 r.2.2 c1 c2)) a1 a2 (r.2.1.1.1 4) (a4 + 1) (c1 ||| giS r.2.1) (c2 ||| usS r.2.1) M3 (by decide) j1 ⟨p2.br.rw, hK, fun z => absurd z (by decide), fun _ => ⟨g1, by rw [x2, e4]; exact Nat.lt_succ_self _, by rw [x1, bnp]; omega⟩, fun z => absurd z (by decide), by rw [x2, x1, e4, bnp]; omega⟩ kn (fun _ => ⟨y58, y69, by omega, by have := h16.2.2.2; have n8 : a4 ≠ 8 := n8; omega⟩) (R3.cg (rw_cg bn.1) (by rw [x3]; exact br_2)) (by rw [w3]; omega)
        refine r3 ?_
        cases e3 : rp b n m τ g 3 K (r.1 + 1) (rwP (40 * m + a2) (some a3) (brP r.2.1 a2 a1 r.2.2 c1 c2)) a1 a2 (r.2.1.1.1 4) (a4 + 1) (c1 ||| giS r.2.1) (c2 ||| usS r.2.1) with
        | error y => rw [e3] at hE; exact fun M4 T4 G4 => hE M4 T4 (((G1.tr G2).tr G3).tr G4)
        | ok r' => rw [e3] at hE; exact fun M4 R4 G4 q => hE M4 R4 (((G1.tr G2).tr G3).tr G4) q
      · rw [adv_er' j1] at hE
        exact hE M2 T2 (G1.tr G2)
    · rw [if_pos q6, if_pos (show a4 = 8 from y8)] at hE
      exact fun M2 T2 G2 => Or.inl ⟨_, _, rfl, T2, hE M2 T2 (G1.tr G2)⟩
    · rw [if_neg n6] at hE
      cases ew : ex b n r.1 18 with
      | error y => rw [ew] at hE; exact fun M2 T2 G2 => Or.inl ⟨_, _, rfl, T2, hE M2 T2 (G1.tr G2)⟩
      | ok j2 =>
        rw [ew] at hE
        refine fun M2 R2 G2 => Or.inr (Or.inl ⟨r.2.1, j2, rfl, R2, h40', fun M3 R3 G3 => ?_⟩)
        refine hE M3 ?_ ((G1.tr G2).tr G3) (fun z => absurd z (by decide))
        show RPs b n s m τ K (raP (brP r.2.1 a2 a1 r.2.2 c1 c2) (up2 (brP r.2.1 a2 a1 r.2.2 c1 c2).1.2.1 71 (40 * m + a2) (Int32.ofNat (40 * m + npS (brP r.2.1 a2 a1 r.2.2 c1 c2))))) M3 j2 K.length
        have bnp : npS (brP r.2.1 a2 a1 r.2.2 c1 c2) = npS r.2.1 := by unfold npS; rw [bn.1]
        refine R3.cg ?_ br_2
        rw [bnp]
        unfold raP
        rw [bn.1]
end
end
section
/-! what a head says of the trap that is opened -/
theorem bind_ok {α β : Type} {R : Except (Int32 × Nat) α} {f : α → Except (Int32 × Nat) β} {y : β} (h : R.bind f = .ok y) : ∃ x, R = .ok x ∧ f x = .ok y := by
  cases R with
  | error e => cases h
  | ok x => exact ⟨x, rfl, h⟩
section
variable {b : Nat → Int32} {n s m : Nat} {τ : Td} {K : List KE} {σ : PS} {i j : Nat}
theorem hd_nm {k : Int32} {r : Nat × PS × Nat × Bool × Nat × Option Int64} (hB : By b) (h : hdM b n m τ k j i K σ = .ok r) : (k = 55 → ∃ c, r.2.2.2.2.2 = some c ∧ NmR b n c (r.2.1.1.2.2 (40 * m + j))) ∧ (k ≠ 55 → r.2.2.2.2.2 = none ∨ r.2.2.2.2.2 = some 0) ∧ (k = 17 ∨ k = 44 ∨ k = 58 → r.2.2.2.2.2 = none) := by
  unfold hdM at h
  by_cases k1 : k = 44
  · rw [if_pos k1] at h
    obtain ⟨x, -, h⟩ := bind_ok h
    obtain ⟨y, -, h⟩ := bind_ok h
    cases h
    exact ⟨fun z => by rw [k1] at z; exact absurd z (by decide), fun _ => Or.inl rfl, fun _ => rfl⟩
  rw [if_neg k1] at h
  by_cases k2 : k = 49
  · rw [if_pos k2] at h
    cases h
    exact ⟨fun z => by rw [k2] at z; exact absurd z (by decide), fun _ => Or.inr rfl, fun z => by rw [k2] at z; exact absurd z (by decide)⟩
  rw [if_neg k2] at h
  by_cases k3 : k = 50
  · rw [if_pos k3] at h
    obtain ⟨x, -, h⟩ := bind_ok h
    cases h
    exact ⟨fun z => by rw [k3] at z; exact absurd z (by decide), fun _ => Or.inr rfl, fun z => by rw [k3] at z; exact absurd z (by decide)⟩
  rw [if_neg k3] at h
  by_cases k4 : k = 53
  · rw [if_pos k4] at h
    obtain ⟨x, -, h⟩ := bind_ok h
    obtain ⟨y, -, h⟩ := bind_ok h
    cases h
    exact ⟨fun z => by rw [k4] at z; exact absurd z (by decide), fun _ => Or.inr rfl, fun z => by rw [k4] at z; exact absurd z (by decide)⟩
  rw [if_neg k4] at h
  by_cases k5 : k = 55
  · rw [if_pos k5] at h
    by_cases q : tK b n i = 2
    · rw [if_pos q] at h
      by_cases q2 : toT (tC b n i) τ = true ∨ (trW K (tC b n i)).isSome = true
      · rw [if_pos q2] at h; cases h
      rw [if_neg q2] at h
      obtain ⟨x, -, h⟩ := bind_ok h
      obtain ⟨y, -, h⟩ := bind_ok h
      cases h
      refine ⟨fun _ => ⟨tC b n i, rfl, tP b n i, name_WD hB q, rfl, va_up_self _ _ _⟩, fun z => absurd k5 z, fun z => by rw [k5] at z; exact absurd z (by decide)⟩
    · rw [if_neg q] at h; cases h
  rw [if_neg k5] at h
  by_cases k6 : k = 58
  · rw [if_pos k6] at h
    obtain ⟨x, -, h⟩ := bind_ok h
    by_cases q : 7 ≤ tK b n x.1 ∧ tK b n x.1 ≤ 12
    · rw [if_pos q] at h
      obtain ⟨y, -, h⟩ := bind_ok h
      obtain ⟨z, -, h⟩ := bind_ok h
      obtain ⟨w, -, h⟩ := bind_ok h
      cases h
      exact ⟨fun z => absurd z k5, fun _ => Or.inl rfl, fun _ => rfl⟩
    · rw [if_neg q] at h; cases h
  rw [if_neg k6] at h
  by_cases k7 : k = 17
  · rw [if_pos k7] at h
    cases h
    exact ⟨fun z => absurd z k5, fun _ => Or.inl rfl, fun _ => rfl⟩
  rw [if_neg k7] at h
  cases h
  exact ⟨fun z => absurd z k5, fun _ => Or.inl rfl, fun _ => rfl⟩
/-- the stack with the part that is opened -/
theorem KNm.push {σ0 : PS} {k : Int32} {x y : Nat} {q0 : Option Nat} {r : Nat × PS × Nat × Bool × Nat × Option Int64} (hB : By b) (hN : KNm b n m σ K) (hp : Pv m (40 * m + npS σ) σ (rwP (40 * m + j) q0 r.2.1)) (hj : j < npS (rwP (40 * m + j) q0 r.2.1)) (h : hdM b n m τ k j i K σ0 = .ok r) (hso : soK k ≠ 99) (h58 : (rwP (40 * m + j) q0 r.2.1).1.2.1 58 (40 * m + j) = Int32.ofNat (soK k)) : KNm b n m (rwP (40 * m + j) q0 r.2.1) ((40 * m + j, x, y, r.2.2.2.2.2) :: K) := by
  obtain ⟨h1, h2, -⟩ := hd_nm hB h
  intro e he
  rcases List.mem_cons.mp he with z | z
  · rw [z]
    refine ⟨⟨Nat.le_add_right _ _, by show 40 * m + j < 40 * m + _; omega⟩, ?_⟩
    by_cases k5 : k = 55
    · obtain ⟨c, e1, e2⟩ := h1 k5
      exact Or.inl ⟨c, e1, by rw [h58, k5]; decide, e2⟩
    · refine Or.inr ⟨h2 k5, ?_⟩
      rw [h58]
      rcases soK_cases hso with w | w | w | w | w | w | w | w | w | w | w | w | w | w | w | w | w <;> first | exact absurd w k5 | (rw [w]; decide)
  · exact (hN.pv hp) e z
end
end
section
/-! the reference: a part without rows, and a part with branches -/
section
variable {b : Nat → Int32} {n s m : Nat} {τ : Td} {K : List KE} {σ : PS} {M M' : Mem} {i o h g : Nat} {Q : Option Value → Mem → Prop}
/-- a part, once what is behind the head of one with rows is known -/
theorem R_ptx {a1 a2 a3 a4 : Nat} {c1 c2 : Int32} (hB : By b) (hz : ∀ i, n ≤ i → b i = 0) (hS : Sto b n s) (hM : MxOk τ) (hR : RPs b n s m τ K σ M i K.length) (h0 : tK b n i ≠ 0) (hI : RpI m 2 K σ a2 a3) (hN : KNm b n m σ K) (hE : EndZ b n s m τ K 2 a2 h M Q (rp b n m τ (g + 1) 2 K i σ a1 a2 a3 a4 c1 c2)) (HH : ∀ r, okK (tK b n i) (tC b n i) K.length τ σ (tP b n i) = .ok () → tK b n (i + 1) ≠ 0 → opnK (tK b n i) = true → hdM b n m τ (tK b n i) (npS σ) (i + 1) K (bgP m (tK b n i) (tP b n i) (sqK K) K.length (whK (tK b n i) (tC b n i) τ) σ) = .ok r → EndZ b n s m τ K 2 a2 h M Q (if tK b n i = 17 then (rp b n m τ g 3 K r.1 (rwP (40 * m + npS σ) none r.2.1) r.2.2.2.2.1 (npS σ) (r.2.1.1.1 4) 1 0 0).bind fun q => .ok (q.1, fiP m (npS σ) q.2.2 (guP q.2.1 (giS σ ||| giS q.2.1) (usS σ ||| usS q.2.1)), q.2.2) else (rp b n m τ g 0 ((40 * m + npS σ, r.2.1.1.1 4, 1, r.2.2.2.2.2) :: K) r.1 (rwP (40 * m + npS σ) none r.2.1) 0 0 0 0 0 0).bind fun q => if tK b n i = 44 ∨ tK b n i = 58 then (if tK b n q.1 = 46 then (adv' b n q.1).bind fun i2 => (rp b n m τ g 0 ((40 * m + npS σ, q.2.1.1.1 4, 2, none) :: K) i2 (rwP (40 * m + npS σ) (some (r.2.1.1.1 4)) q.2.1) 0 0 0 0 0 0).bind fun t => (chM b n r.2.2.1 q.2.2 t.2.2 t.1 t.2.1).bind fun u => .ok (u.1, fiP m (npS σ) u.2.2 u.2.1, u.2.2) else (chM b n r.2.2.1 q.2.2 (mkT (trS q.2.1) 0).2 q.1 (trP1 q.2.1 (mkT (trS q.2.1) 0).1)).bind fun u => .ok (u.1, fiP m (npS σ) u.2.2 u.2.1, u.2.2)) else (tlM b n m τ (tK b n i) (npS σ) r.2.2.2.2.1 r.2.2.1 q.2.2 q.1 (K.length + 1) q.2.1).bind fun u => .ok (u.1, fiP m (npS σ) u.2.2 u.2.1, u.2.2)) → ∀ M1, RPs b n s m τ ((40 * m + npS σ, r.2.1.1.1 4, 1, r.2.2.2.2.2) :: K) (rwP (40 * m + npS σ) none r.2.1) M1 r.1 (K.length + 1) → RGp m M M1 → SLp h Q M1) : SLp h Q M := by
  obtain ⟨hP, hK, hq, -, -, hc⟩ := hI
  unfold rp at hE
  rw [if_neg (show ¬ (2 : Nat) = 0 by decide), if_neg (show ¬ (2 : Nat) = 1 by decide), if_pos (show (2 : Nat) = 2 from rfl)] at hE
  refine R_part hR hB hz hS hM h0 hP hK hN (hq (by decide)) hc (fun e he => ?_) (fun ho ha => ?_) (fun ho ha hop => ?_) (fun ho ha hop => ?_)
  · rw [he] at hE; exact hE
  · rw [ho, adv_er' ha] at hE; exact hE
  · rw [ho, adv_ok' ha] at hE
    have hE : EndZ b n s m τ K 2 a2 h M Q (if opnK (tK b n i) = false then ((lfM b n m τ (tK b n i) (tC b n i) (npS σ) (i + 1) K (bgP m (tK b n i) (tP b n i) (sqK K) K.length (whK (tK b n i) (tC b n i) τ) σ)).bind fun r => .ok (r.1, fiP m (npS σ) r.2.2 r.2.1, r.2.2)) else ((hdM b n m τ (tK b n i) (npS σ) (i + 1) K (bgP m (tK b n i) (tP b n i) (sqK K) K.length (whK (tK b n i) (tC b n i) τ) σ)).bind fun r => (if tK b n i = 17 then (rp b n m τ g 3 K r.1 (rwP (40 * m + npS σ) none r.2.1) r.2.2.2.2.1 (npS σ) (r.2.1.1.1 4) 1 0 0).bind fun q => .ok (q.1, fiP m (npS σ) q.2.2 (guP q.2.1 (giS σ ||| giS q.2.1) (usS σ ||| usS q.2.1)), q.2.2) else (rp b n m τ g 0 ((40 * m + npS σ, r.2.1.1.1 4, 1, r.2.2.2.2.2) :: K) r.1 (rwP (40 * m + npS σ) none r.2.1) 0 0 0 0 0 0).bind fun q => if tK b n i = 44 ∨ tK b n i = 58 then (if tK b n q.1 = 46 then (adv' b n q.1).bind fun i2 => (rp b n m τ g 0 ((40 * m + npS σ, q.2.1.1.1 4, 2, none) :: K) i2 (rwP (40 * m + npS σ) (some (r.2.1.1.1 4)) q.2.1) 0 0 0 0 0 0).bind fun t => (chM b n r.2.2.1 q.2.2 t.2.2 t.1 t.2.1).bind fun u => .ok (u.1, fiP m (npS σ) u.2.2 u.2.1, u.2.2) else (chM b n r.2.2.1 q.2.2 (mkT (trS q.2.1) 0).2 q.1 (trP1 q.2.1 (mkT (trS q.2.1) 0).1)).bind fun u => .ok (u.1, fiP m (npS σ) u.2.2 u.2.1, u.2.2)) else (tlM b n m τ (tK b n i) (npS σ) r.2.2.2.2.1 r.2.2.1 q.2.2 q.1 (K.length + 1) q.2.1).bind fun u => .ok (u.1, fiP m (npS σ) u.2.2 u.2.1, u.2.2)))) := hE
    rw [if_pos hop] at hE
    cases e : lfM b n m τ (tK b n i) (tC b n i) (npS σ) (i + 1) K (bgP m (tK b n i) (tP b n i) (sqK K) K.length (whK (tK b n i) (tC b n i) τ) σ) with
    | error y => rw [e] at hE; exact hE
    | ok r =>
      rw [e] at hE
      exact fun M1 R1 G1 => hE M1 (R1.cg rfl rfl) G1 (fun z => absurd z (by decide))
  · rw [ho, adv_ok' ha] at hE
    have hE : EndZ b n s m τ K 2 a2 h M Q (if opnK (tK b n i) = false then ((lfM b n m τ (tK b n i) (tC b n i) (npS σ) (i + 1) K (bgP m (tK b n i) (tP b n i) (sqK K) K.length (whK (tK b n i) (tC b n i) τ) σ)).bind fun r => .ok (r.1, fiP m (npS σ) r.2.2 r.2.1, r.2.2)) else ((hdM b n m τ (tK b n i) (npS σ) (i + 1) K (bgP m (tK b n i) (tP b n i) (sqK K) K.length (whK (tK b n i) (tC b n i) τ) σ)).bind fun r => (if tK b n i = 17 then (rp b n m τ g 3 K r.1 (rwP (40 * m + npS σ) none r.2.1) r.2.2.2.2.1 (npS σ) (r.2.1.1.1 4) 1 0 0).bind fun q => .ok (q.1, fiP m (npS σ) q.2.2 (guP q.2.1 (giS σ ||| giS q.2.1) (usS σ ||| usS q.2.1)), q.2.2) else (rp b n m τ g 0 ((40 * m + npS σ, r.2.1.1.1 4, 1, r.2.2.2.2.2) :: K) r.1 (rwP (40 * m + npS σ) none r.2.1) 0 0 0 0 0 0).bind fun q => if tK b n i = 44 ∨ tK b n i = 58 then (if tK b n q.1 = 46 then (adv' b n q.1).bind fun i2 => (rp b n m τ g 0 ((40 * m + npS σ, q.2.1.1.1 4, 2, none) :: K) i2 (rwP (40 * m + npS σ) (some (r.2.1.1.1 4)) q.2.1) 0 0 0 0 0 0).bind fun t => (chM b n r.2.2.1 q.2.2 t.2.2 t.1 t.2.1).bind fun u => .ok (u.1, fiP m (npS σ) u.2.2 u.2.1, u.2.2) else (chM b n r.2.2.1 q.2.2 (mkT (trS q.2.1) 0).2 q.1 (trP1 q.2.1 (mkT (trS q.2.1) 0).1)).bind fun u => .ok (u.1, fiP m (npS σ) u.2.2 u.2.1, u.2.2)) else (tlM b n m τ (tK b n i) (npS σ) r.2.2.2.2.1 r.2.2.1 q.2.2 q.1 (K.length + 1) q.2.1).bind fun u => .ok (u.1, fiP m (npS σ) u.2.2 u.2.1, u.2.2)))) := hE
    rw [if_neg (show ¬ opnK (tK b n i) = false by rw [hop]; decide)] at hE
    cases e : hdM b n m τ (tK b n i) (npS σ) (i + 1) K (bgP m (tK b n i) (tP b n i) (sqK K) K.length (whK (tK b n i) (tC b n i) τ) σ) with
    | error y => rw [e] at hE; exact hE
    | ok r =>
      rw [e] at hE
      exact HH r ho ha hop e hE
end
end
section
/-! the reference: what is known once a part with rows is opened -/
section
variable {b : Nat → Int32} {n s m : Nat} {τ : Td} {K : List KE} {σ : PS} {M M' : Mem} {i o h g : Nat} {Q : Option Value → Mem → Prop}
theorem hh_facts {a2 a3 : Nat} {r : Nat × PS × Nat × Bool × Nat × Option Int64} (hB : By b) (hS : Sto b n s) (hi : i ≤ s) (h0 : tK b n i ≠ 0) (hI : RpI m 2 K σ a2 a3) (hN : KNm b n m σ K) (ho : okK (tK b n i) (tC b n i) K.length τ σ (tP b n i) = .ok ()) (ha : tK b n (i + 1) ≠ 0) (hop : opnK (tK b n i) = true) (e : hdM b n m τ (tK b n i) (npS σ) (i + 1) K (bgP m (tK b n i) (tP b n i) (sqK K) K.length (whK (tK b n i) (tC b n i) τ) σ) = .ok r) :
    (tK b n r.1 ≠ 0 ∧ r.1 ≤ s ∧ i < r.1) ∧ Pv m (40 * m + npS σ) σ (rwP (40 * m + npS σ) none r.2.1) ∧ PsOk m (rwP (40 * m + npS σ) none r.2.1) ∧ (npS (rwP (40 * m + npS σ) none r.2.1) = npS σ + 1 ∧ (rwP (40 * m + npS σ) none r.2.1).1.1 4 = σ.1.1 4 + 1 ∧ r.2.1.1.1 4 = σ.1.1 4) ∧ (K.length ≤ 14 ∧ npS σ < 40 ∧ soK (tK b n i) ≠ 99) ∧ (rwP (40 * m + npS σ) none r.2.1).1.2.1 58 (40 * m + npS σ) = Int32.ofNat (soK (tK b n i)) ∧ (rwP (40 * m + npS σ) none r.2.1).1.2.1 69 (40 * m + npS σ) ≠ -1 ∧ KNm b n m (rwP (40 * m + npS σ) none r.2.1) ((40 * m + npS σ, r.2.1.1.1 4, 1, r.2.2.2.2.2) :: K) := by
  obtain ⟨hP, hK, hq, -, -, hc⟩ := hI
  obtain ⟨o1, o2, o3, o4, o5⟩ := okK_ok ho
  have n1 : tK b n i ≠ 1 := fun z => o2 (by rw [z]; exact soK_1)
  have hs := hS.lt hi h0 n1
  have hok := hdM_ok (F := True) (m := m) (τ := τ) (k := tK b n i) (j := npS σ) (K := K) (σ := bgP m (tK b n i) (tP b n i) (sqK K) K.length (whK (tK b n i) (tC b n i) τ) σ) hS (i := i + 1) hs ha
  rw [e] at hok
  obtain ⟨q1, q2, q3, hH, -⟩ := hok
  obtain ⟨b58, b69⟩ := bg58 (m := m) (σ := σ) (k := tK b n i) (pl := tP b n i) (q := sqK K) (d := K.length) (wh := whK (tK b n i) (tC b n i) τ)
  obtain ⟨n1', n2', -, -⟩ := bg_n (m := m) (σ := σ) (k := tK b n i) (pl := tP b n i) (q := sqK K) (d := K.length) (wh := whK (tK b n i) (tC b n i) τ)
  have pb : Pv m (40 * m + npS σ) σ (bgP m (tK b n i) (tP b n i) (sqK K) K.length (whK (tK b n i) (tC b n i) τ) σ) := Pv.bg (Nat.le_refl _)
  have prw : Pv m (40 * m + npS σ) σ (rwP (40 * m + npS σ) none r.2.1) := (pb.tr (Pv.hd hH (Nat.le_refl _))).tr (Pv.rw (fun _ => Nat.le_refl _))
  have okr : PsOk m r.2.1 := (hP.bg o3 o4 hK (hq (by decide))).hd hH
  have en : npS r.2.1 = npS σ + 1 := by rw [← n1']; unfold npS; rw [hH.1]
  have e4 : r.2.1.1.1 4 = σ.1.1 4 := by rw [hH.1]; exact n2'
  obtain ⟨m1, m2, -⟩ := rw_n (σ := r.2.1) (p := 40 * m + npS σ) (q0 := none)
  have r58 : r.2.1.1.2.1 58 (40 * m + npS σ) = Int32.ofNat (soK (tK b n i)) := by rw [hH.2.1 58 _ (Or.inl (by decide))]; exact b58
  have x58 : (rwP (40 * m + npS σ) none r.2.1).1.2.1 58 (40 * m + npS σ) = Int32.ofNat (soK (tK b n i)) := by
    rw [← r58]
    simp [rwP, up2]
  have x69 : (rwP (40 * m + npS σ) none r.2.1).1.2.1 69 (40 * m + npS σ) = Int32.ofNat (r.2.1.1.1 4) := by simp [rwP, up2]
  have n69 : (rwP (40 * m + npS σ) none r.2.1).1.2.1 69 (40 * m + npS σ) ≠ -1 := by
    rw [x69]
    intro z
    have z2 := congrArg Int32.toInt z
    rw [ti32 (by omega)] at z2
    have : (-1 : Int32).toInt = -1 := by decide
    omega
  have hl14 : K.length ≤ 14 := by
    have : K.length ≠ 15 := fun z => o5 ⟨hop, z⟩
    omega
  exact ⟨⟨q3, q2, by omega⟩, prw, okr.rw, ⟨m1.trans en, by rw [m2, e4], e4⟩, ⟨hl14, o3, o2⟩, x58, n69, KNm.push hB hN prw (by rw [m1, en]; omega) e o2 x58⟩
end
end
section
/-! the reference: parts with rows -/
section
variable {b : Nat → Int32} {n s m : Nat} {τ : Td} {K : List KE} {σ : PS} {M M' : Mem} {i o h g : Nat} {Q : Option Value → Mem → Prop}
/-- 'end' behind the rows of a choice -/
theorem ch_end {e : KE} {j lit x y q a2 : Nat} {M1 : Mem} {σ1 σ2 : PS} (he : e.1 = 40 * m + j) (h1 : σ2.1 = σ1.1) (h2 : σ2.2.2 = σ1.2.2) (h40 : npS σ1 ≤ 40) (G1 : RGp m M M1) (hE : EndZ b n s m τ K 2 a2 h M Q ((chM b n lit x y q σ2).bind fun u => .ok (u.1, fiP m j u.2.2 u.2.1, u.2.2))) : EndP b n s m τ (e :: K) σ1 (K.length + 1) M1 (fun M' => GPo b n s m τ K e h Q (some (.int 0)) M') (ex b n q 43) := by
  unfold chM at hE
  cases ew : ex b n q 43 with
  | error y => rw [ew] at hE; exact fun M2 T2 G2 => Or.inl ⟨_, _, rfl, T2, hE M2 T2 (G1.tr G2)⟩
  | ok i2 =>
    rw [ew] at hE
    refine fun M2 R2 G2 => Or.inr (Or.inl ⟨σ1, i2, rfl, R2, h40, fun M3 R3 G3 => hE M3 (R3.cg ?_ h2) ((G1.tr G2).tr G3) (fun z => absurd z (by decide))⟩)
    show (σ2.1.1, up2 σ2.1.2.1 71 (40 * m + j) (Int32.ofNat (40 * m + σ2.1.1 0)), σ2.1.2.2) = (σ1.1.1, up2 σ1.1.2.1 71 e.1 (Int32.ofNat (40 * m + σ1.1.1 0)), σ1.1.2.2)
    rw [h1, he]
theorem R_hh {a2 a3 : Nat} {r : Nat × PS × Nat × Bool × Nat × Option Int64} (hB : By b) (hz : ∀ i, n ≤ i → b i = 0) (hS : Sto b n s) (ih : RpS b n s m τ h Q g) (hi : i ≤ s) (h0 : tK b n i ≠ 0) (hI : RpI m 2 K σ a2 a3) (hN : KNm b n m σ K) (hg : 6 * (s + 1 - i) ≤ g + 1) (ho : okK (tK b n i) (tC b n i) K.length τ σ (tP b n i) = .ok ()) (ha : tK b n (i + 1) ≠ 0) (hop : opnK (tK b n i) = true) (e : hdM b n m τ (tK b n i) (npS σ) (i + 1) K (bgP m (tK b n i) (tP b n i) (sqK K) K.length (whK (tK b n i) (tC b n i) τ) σ) = .ok r) (k17 : tK b n i ≠ 17) (k44 : tK b n i ≠ 44) (k58 : tK b n i ≠ 58) (hE : EndZ b n s m τ K 2 a2 h M Q ((rp b n m τ g 0 ((40 * m + npS σ, r.2.1.1.1 4, 1, r.2.2.2.2.2) :: K) r.1 (rwP (40 * m + npS σ) none r.2.1) 0 0 0 0 0 0).bind fun q => ((tlM b n m τ (tK b n i) (npS σ) r.2.2.2.2.1 r.2.2.1 q.2.2 q.1 (K.length + 1) q.2.1).bind fun u => .ok (u.1, fiP m (npS σ) u.2.2 u.2.1, u.2.2)))) (M1 : Mem) (R1 : RPs b n s m τ ((40 * m + npS σ, r.2.1.1.1 4, 1, r.2.2.2.2.2) :: K) (rwP (40 * m + npS σ) none r.2.1) M1 r.1 (K.length + 1)) (G1 : RGp m M M1) : SLp h Q M1 := by
  obtain ⟨⟨t0, t1, t2⟩, prw, okw, ⟨n1, n2, n3⟩, ⟨hl, o3, o2⟩, x58, n69, kn⟩ := hh_facts hB hS hi h0 hI hN ho ha hop e
  have hc := hI.2.2.2.2.2
  have I0 : RpI m 0 ((40 * m + npS σ, r.2.1.1.1 4, 1, r.2.2.2.2.2) :: K) (rwP (40 * m + npS σ) none r.2.1) 0 0 := ⟨okw, by show K.length + 1 ≤ 15; omega, fun _ => by show r.2.1.1.1 4 < _; rw [n2, n3]; exact Nat.lt_succ_self _, fun z => absurd z (by decide), fun z => absurd z (by decide), by rw [n2, n1]; omega⟩
  have ok0 := rp_ok (τ := τ) (m := m) hS g 0 ((40 * m + npS σ, r.2.1.1.1 4, 1, r.2.2.2.2.2) :: K) r.1 (rwP (40 * m + npS σ) none r.2.1) 0 0 0 0 0 0 (by decide) t1 t0 I0
  refine ih 0 ((40 * m + npS σ, r.2.1.1.1 4, 1, r.2.2.2.2.2) :: K) r.1 (rwP (40 * m + npS σ) none r.2.1) 0 0 0 0 0 0 M1 (by decide) t0 I0 kn (fun z => absurd z (by decide)) R1 (by rw [w0]; omega) ?_
  cases e0 : rp b n m τ g 0 ((40 * m + npS σ, r.2.1.1.1 4, 1, r.2.2.2.2.2) :: K) r.1 (rwP (40 * m + npS σ) none r.2.1) 0 0 0 0 0 0 with
  | error y => rw [e0] at hE; exact fun M2 T2 G2 => hE M2 T2 (G1.tr G2)
  | ok q =>
    rw [e0] at hE ok0
    have hE : EndZ b n s m τ K 2 a2 h M Q ((tlM b n m τ (tK b n i) (npS σ) r.2.2.2.2.1 r.2.2.1 q.2.2 q.1 (K.length + 1) q.2.1).bind fun u => .ok (u.1, fiP m (npS σ) u.2.2 u.2.1, u.2.2)) := hE
    obtain ⟨k1, k2, k3, ⟨p1, p2, p3, p4⟩, k5⟩ := ok0
    intro M2 R2 G2 n13
    have R2 : RPs b n s m τ ((40 * m + npS σ, r.2.1.1.1 4, 1, r.2.2.2.2.2) :: K) q.2.1 M2 q.1 (K.length + 1) := R2
    have y58 : q.2.1.1.2.1 58 (40 * m + npS σ) = Int32.ofNat (soK (tK b n i)) := (p1.2.2.1 58 (by decide) (by decide) (by decide) (40 * m + npS σ) (by rw [n1]; omega)).trans x58
    have hk : tK b n i = 42 ∨ tK b n i = 49 ∨ tK b n i = 50 ∨ tK b n i = 52 ∨ tK b n i = 53 ∨ tK b n i = 55 := by
      rcases soK_cases o2 with w | w | w | w | w | w | w | w | w | w | w | w | w | w | w | w | w
      · rw [w] at hop; exact absurd hop (by decide)
      · rw [w] at hop; exact absurd hop (by decide)
      · rw [w] at hop; exact absurd hop (by decide)
      · rw [w] at hop; exact absurd hop (by decide)
      · rw [w] at hop; exact absurd hop (by decide)
      · exact Or.inl w
      · exact absurd w k44
      · rw [w] at hop; exact absurd hop (by decide)
      · exact Or.inr (Or.inl w)
      · exact Or.inr (Or.inr (Or.inl w))
      · exact Or.inr (Or.inr (Or.inr (Or.inl w)))
      · exact Or.inr (Or.inr (Or.inr (Or.inr (Or.inl w))))
      · exact Or.inr (Or.inr (Or.inr (Or.inr (Or.inr w))))
      · rw [w] at hop; exact absurd hop (by decide)
      · exact absurd w k58
      · rw [w] at hop; exact absurd hop (by decide)
      · exact absurd w k17
    refine R_behind (e := (40 * m + npS σ, r.2.1.1.1 4, 1, r.2.2.2.2.2)) (j := npS σ) R2 hB (n13 (by decide)) o3 rfl hl ?_
    refine P_goTail (h := h + 3) (e := (40 * m + npS σ, r.2.1.1.1 4, 1, r.2.2.2.2.2)) (k := tK b n i) (aw := r.2.2.2.2.1) (lit := r.2.2.1) (x := q.2.2) R2 hB hz hS k3 o3 (by omega) hk y58 ?_
    have tok := tlM_ok (F := True) (m := m) (τ := τ) (k := tK b n i) (j := npS σ) (aw := r.2.2.2.2.1) (lit := r.2.2.1) (x := q.2.2) (o := K.length + 1) (σ := q.2.1) hS k2
    cases et : tlM b n m τ (tK b n i) (npS σ) r.2.2.2.2.1 r.2.2.1 q.2.2 q.1 (K.length + 1) q.2.1 with
    | error y => rw [et] at hE; exact fun M3 T3 G3 => Or.inl ⟨_, _, rfl, T3, hE M3 T3 ((G1.tr G2).tr G3)⟩
    | ok u =>
      rw [et] at hE tok
      have cn : u.2.1.1.1 = q.2.1.1.1 := tok.2.2.2.1.1
      refine fun M3 R3 G3 => Or.inr (Or.inl ⟨u.2.1, u.1, rfl, R3, by unfold npS; rw [cn]; exact p2.1, fun M4 R4 G4 => hE M4 (R4.cg rfl rfl) (((G1.tr G2).tr G3).tr G4) (fun z => absurd z (by decide))⟩)
end
end
section
/-! the reference: present and if -/
section
variable {b : Nat → Int32} {n s m : Nat} {τ : Td} {K : List KE} {σ : PS} {M M' : Mem} {i o h g : Nat} {Q : Option Value → Mem → Prop}
theorem trP1_1 {Θ : TrT} : (trP1 σ Θ).1 = σ.1 := rfl
theorem trP1_2 {Θ : TrT} : (trP1 σ Θ).2.2 = σ.2.2 := rfl
theorem R_ch {a2 a3 : Nat} {r : Nat × PS × Nat × Bool × Nat × Option Int64} (hB : By b) (hz : ∀ i, n ≤ i → b i = 0) (hS : Sto b n s) (ih : RpS b n s m τ h Q g) (hi : i ≤ s) (h0 : tK b n i ≠ 0) (hI : RpI m 2 K σ a2 a3) (hN : KNm b n m σ K) (hg : 6 * (s + 1 - i) ≤ g + 1) (ho : okK (tK b n i) (tC b n i) K.length τ σ (tP b n i) = .ok ()) (ha : tK b n (i + 1) ≠ 0) (hop : opnK (tK b n i) = true) (e : hdM b n m τ (tK b n i) (npS σ) (i + 1) K (bgP m (tK b n i) (tP b n i) (sqK K) K.length (whK (tK b n i) (tC b n i) τ) σ) = .ok r) (kc : tK b n i = 44 ∨ tK b n i = 58) (hE : EndZ b n s m τ K 2 a2 h M Q ((rp b n m τ g 0 ((40 * m + npS σ, r.2.1.1.1 4, 1, r.2.2.2.2.2) :: K) r.1 (rwP (40 * m + npS σ) none r.2.1) 0 0 0 0 0 0).bind fun q => if tK b n q.1 = 46 then ((adv' b n q.1).bind fun i2 => (rp b n m τ g 0 ((40 * m + npS σ, q.2.1.1.1 4, 2, none) :: K) i2 (rwP (40 * m + npS σ) (some (r.2.1.1.1 4)) q.2.1) 0 0 0 0 0 0).bind fun t => (chM b n r.2.2.1 q.2.2 t.2.2 t.1 t.2.1).bind fun u => .ok (u.1, fiP m (npS σ) u.2.2 u.2.1, u.2.2)) else ((chM b n r.2.2.1 q.2.2 (mkT (trS q.2.1) 0).2 q.1 (trP1 q.2.1 (mkT (trS q.2.1) 0).1)).bind fun u => .ok (u.1, fiP m (npS σ) u.2.2 u.2.1, u.2.2)))) (M1 : Mem) (R1 : RPs b n s m τ ((40 * m + npS σ, r.2.1.1.1 4, 1, r.2.2.2.2.2) :: K) (rwP (40 * m + npS σ) none r.2.1) M1 r.1 (K.length + 1)) (G1 : RGp m M M1) : SLp h Q M1 := by
  obtain ⟨⟨t0, t1, t2⟩, prw, okw, ⟨n1, n2, n3⟩, ⟨hl, o3, o2⟩, x58, n69, kn⟩ := hh_facts hB hS hi h0 hI hN ho ha hop e
  have nm : r.2.2.2.2.2 = none := (hd_nm hB e).2.2 (Or.inr kc)
  have hc := hI.2.2.2.2.2
  have I0 : RpI m 0 ((40 * m + npS σ, r.2.1.1.1 4, 1, r.2.2.2.2.2) :: K) (rwP (40 * m + npS σ) none r.2.1) 0 0 := ⟨okw, by show K.length + 1 ≤ 15; omega, fun _ => by show r.2.1.1.1 4 < _; rw [n2, n3]; exact Nat.lt_succ_self _, fun z => absurd z (by decide), fun z => absurd z (by decide), by rw [n2, n1]; omega⟩
  have ok0 := rp_ok (τ := τ) (m := m) hS g 0 ((40 * m + npS σ, r.2.1.1.1 4, 1, r.2.2.2.2.2) :: K) r.1 (rwP (40 * m + npS σ) none r.2.1) 0 0 0 0 0 0 (by decide) t1 t0 I0
  refine ih 0 ((40 * m + npS σ, r.2.1.1.1 4, 1, r.2.2.2.2.2) :: K) r.1 (rwP (40 * m + npS σ) none r.2.1) 0 0 0 0 0 0 M1 (by decide) t0 I0 kn (fun z => absurd z (by decide)) R1 (by rw [w0]; omega) ?_
  cases e0 : rp b n m τ g 0 ((40 * m + npS σ, r.2.1.1.1 4, 1, r.2.2.2.2.2) :: K) r.1 (rwP (40 * m + npS σ) none r.2.1) 0 0 0 0 0 0 with
  | error y => rw [e0] at hE; exact fun M2 T2 G2 => hE M2 T2 (G1.tr G2)
  | ok q =>
    rw [e0] at hE ok0
    have hE : EndZ b n s m τ K 2 a2 h M Q (if tK b n q.1 = 46 then ((adv' b n q.1).bind fun i2 => (rp b n m τ g 0 ((40 * m + npS σ, q.2.1.1.1 4, 2, none) :: K) i2 (rwP (40 * m + npS σ) (some (r.2.1.1.1 4)) q.2.1) 0 0 0 0 0 0).bind fun t => (chM b n r.2.2.1 q.2.2 t.2.2 t.1 t.2.1).bind fun u => .ok (u.1, fiP m (npS σ) u.2.2 u.2.1, u.2.2)) else ((chM b n r.2.2.1 q.2.2 (mkT (trS q.2.1) 0).2 q.1 (trP1 q.2.1 (mkT (trS q.2.1) 0).1)).bind fun u => .ok (u.1, fiP m (npS σ) u.2.2 u.2.1, u.2.2))) := hE
    obtain ⟨k1, k2, k3, ⟨p1, p2, p3, p4⟩, k5⟩ := ok0
    have h40 := p2.1
    intro M2 R2 G2 n13
    have R2 : RPs b n s m τ ((40 * m + npS σ, r.2.1.1.1 4, 1, r.2.2.2.2.2) :: K) q.2.1 M2 q.1 (K.length + 1) := R2
    have y58 : q.2.1.1.2.1 58 (40 * m + npS σ) = Int32.ofNat (soK (tK b n i)) := (p1.2.2.1 58 (by decide) (by decide) (by decide) (40 * m + npS σ) (by rw [n1]; omega)).trans x58
    have y69 : q.2.1.1.2.1 69 (40 * m + npS σ) ≠ -1 := by rw [p1.2.2.1 69 (by decide) (by decide) (by decide) (40 * m + npS σ) (by rw [n1]; omega)]; exact n69
    have hnq : npS σ + 1 ≤ npS q.2.1 := by have := p1.1; rw [n1] at this; exact this
    refine R_behind (e := (40 * m + npS σ, r.2.1.1.1 4, 1, r.2.2.2.2.2)) (j := npS σ) R2 hB (n13 (by decide)) o3 rfl hl ?_
    refine P_goElse (h := h + 8) (e := (40 * m + npS σ, r.2.1.1.1 4, 1, r.2.2.2.2.2)) (lit := 0) (x := 0) (y := 0) (k := tK b n i) R2 hB hz hS k3 o3 (by omega) kc y58 (by show (1 : Nat) ≤ 8; decide) (fun _ q46 => ?_) (fun hno => ?_)
    · rw [if_pos q46] at hE
      have hs := hS.lt k2 k3 (by rw [q46]; decide)
      refine ⟨fun j1 M3 R3 G3 => Or.inr (Or.inr ⟨q.2.1, q.1 + 1, rfl, R3, ⟨by omega, by show r.2.1.1.1 4 < 100; omega, y69⟩, fun M4 R4 G4 => ?_⟩), fun j1 M3 T3 G3 => Or.inl ⟨_, _, rfl, T3, ?_⟩⟩
      · rw [adv_ok' j1] at hE
        have hE : EndZ b n s m τ K 2 a2 h M Q ((rp b n m τ g 0 ((40 * m + npS σ, q.2.1.1.1 4, 2, none) :: K) (q.1 + 1) (rwP (40 * m + npS σ) (some (r.2.1.1.1 4)) q.2.1) 0 0 0 0 0 0).bind fun t => (chM b n r.2.2.1 q.2.2 t.2.2 t.1 t.2.1).bind fun u => .ok (u.1, fiP m (npS σ) u.2.2 u.2.1, u.2.2)) := hE
        have R4 : RPs b n s m τ ((40 * m + npS σ, q.2.1.1.1 4, 2, r.2.2.2.2.2) :: K) (rwP (40 * m + npS σ) (some (r.2.1.1.1 4)) q.2.1) M4 (q.1 + 1) (K.length + 1) := R4
        rw [nm] at R4
        obtain ⟨z1, z2, -⟩ := rw_n (σ := q.2.1) (p := 40 * m + npS σ) (q0 := some (r.2.1.1.1 4))
        have pv2 : Pv m (40 * m + npS σ) σ (rwP (40 * m + npS σ) (some (r.2.1.1.1 4)) q.2.1) := (prw.tr (p1.less (by rw [n1]; omega))).tr (Pv.rw (fun z => by cases z))
        have w58 : (rwP (40 * m + npS σ) (some (r.2.1.1.1 4)) q.2.1).1.2.1 58 (40 * m + npS σ) = Int32.ofNat (soK (tK b n i)) := by rw [← y58]; simp [rwP, up2]
        have kn2 : KNm b n m (rwP (40 * m + npS σ) (some (r.2.1.1.1 4)) q.2.1) ((40 * m + npS σ, q.2.1.1.1 4, 2, none) :: K) := by
          intro e' he'
          rcases List.mem_cons.mp he' with z | z
          · rw [z]
            refine ⟨⟨Nat.le_add_right _ _, by show 40 * m + npS σ < 40 * m + _; rw [z1]; omega⟩, Or.inr ⟨Or.inl rfl, ?_⟩⟩
            rw [w58]
            rcases kc with w | w <;> rw [w] <;> decide
          · exact (hN.pv pv2) e' z
        have I2 : RpI m 0 ((40 * m + npS σ, q.2.1.1.1 4, 2, none) :: K) (rwP (40 * m + npS σ) (some (r.2.1.1.1 4)) q.2.1) 0 0 := ⟨p2.rw, by show K.length + 1 ≤ 15; omega, fun _ => by show q.2.1.1.1 4 < _; rw [z2]; exact Nat.lt_succ_self _, fun z => absurd z (by decide), fun z => absurd z (by decide), by rw [z2, z1]; omega⟩
        have ok2 := rp_ok (τ := τ) (m := m) hS g 0 ((40 * m + npS σ, q.2.1.1.1 4, 2, none) :: K) (q.1 + 1) (rwP (40 * m + npS σ) (some (r.2.1.1.1 4)) q.2.1) 0 0 0 0 0 0 (by decide) hs j1 I2
        refine ih 0 ((40 * m + npS σ, q.2.1.1.1 4, 2, none) :: K) (q.1 + 1) (rwP (40 * m + npS σ) (some (r.2.1.1.1 4)) q.2.1) 0 0 0 0 0 0 M4 (by decide) j1 I2 kn2 (fun z => absurd z (by decide)) R4 (by rw [w0]; omega) ?_
        cases e2 : rp b n m τ g 0 ((40 * m + npS σ, q.2.1.1.1 4, 2, none) :: K) (q.1 + 1) (rwP (40 * m + npS σ) (some (r.2.1.1.1 4)) q.2.1) 0 0 0 0 0 0 with
        | error y => rw [e2] at hE; exact fun M5 T5 G5 => hE M5 T5 ((((G1.tr G2).tr G3).tr G4).tr G5)
        | ok t =>
          rw [e2] at hE ok2
          have hE : EndZ b n s m τ K 2 a2 h M Q ((chM b n r.2.2.1 q.2.2 t.2.2 t.1 t.2.1).bind fun u => .ok (u.1, fiP m (npS σ) u.2.2 u.2.1, u.2.2)) := hE
          obtain ⟨l1, l2, l3, ⟨s1, s2, s3, s4⟩, l5⟩ := ok2
          intro M5 R5 G5 m13
          have R5 : RPs b n s m τ ((40 * m + npS σ, q.2.1.1.1 4, 2, none) :: K) t.2.1 M5 t.1 (K.length + 1) := R5
          have v58 : t.2.1.1.2.1 58 (40 * m + npS σ) = Int32.ofNat (soK (tK b n i)) := (s1.2.2.1 58 (by decide) (by decide) (by decide) (40 * m + npS σ) (by rw [z1]; omega)).trans w58
          refine R_behind (e := (40 * m + npS σ, q.2.1.1.1 4, 2, none)) (j := npS σ) R5 hB (m13 (by decide)) o3 rfl hl ?_
          refine P_goElse (h := h + 8) (e := (40 * m + npS σ, q.2.1.1.1 4, 2, none)) (lit := 0) (x := 0) (y := 0) (k := tK b n i) R5 hB hz hS l3 o3 (by omega) kc v58 (by show (2 : Nat) ≤ 8; decide) (fun z => absurd z (by show ¬ (2 : Nat) = 1; decide)) (fun _ => ?_)
          exact ch_end (e := (40 * m + npS σ, q.2.1.1.1 4, 2, none)) (j := npS σ) (M := M) rfl rfl rfl s2.1 ((((G1.tr G2).tr G3).tr G4).tr G5) hE
      · rw [adv_er' j1] at hE
        exact hE M3 T3 ((G1.tr G2).tr G3)
    · rw [if_neg (fun z => hno ⟨rfl, z⟩)] at hE
      exact ch_end (e := (40 * m + npS σ, r.2.1.1.1 4, 1, r.2.2.2.2.2)) (j := npS σ) (M := M) (σ1 := q.2.1) (σ2 := trP1 q.2.1 (mkT (trS q.2.1) 0).1) (lit := r.2.2.1) (x := q.2.2) (y := (mkT (trS q.2.1) 0).2) (q := q.1) rfl trP1_1 trP1_2 h40 (G1.tr G2) hE
end
end
section
/-! the reference reads all parts -/
section
variable {b : Nat → Int32} {n s m : Nat} {τ : Td} {K : List KE} {σ : PS} {M M' : Mem} {i o h g : Nat} {Q : Option Value → Mem → Prop}
theorem R_pt {a1 a2 a3 a4 : Nat} {c1 c2 : Int32} (hB : By b) (hz : ∀ i, n ≤ i → b i = 0) (hS : Sto b n s) (hM : MxOk τ) (ih : RpS b n s m τ h Q g) (hR : RPs b n s m τ K σ M i K.length) (h0 : tK b n i ≠ 0) (hI : RpI m 2 K σ a2 a3) (hN : KNm b n m σ K) (hg : 6 * (s + 1 - i) ≤ g + 1) (hE : EndZ b n s m τ K 2 a2 h M Q (rp b n m τ (g + 1) 2 K i σ a1 a2 a3 a4 c1 c2)) : SLp h Q M := by
  have hi := hR.2.1.2.2
  refine R_ptx hB hz hS hM hR h0 hI hN hE (fun r ho ha hop e hE2 M1 R1 G1 => ?_)
  by_cases k17 : tK b n i = 17
  · rw [if_pos k17] at hE2
    obtain ⟨⟨t0, t1, t2⟩, prw, okw, ⟨n1, n2, n3⟩, ⟨hl, o3, o2⟩, x58, n69, kn⟩ := hh_facts hB hS hi h0 hI hN ho ha hop e
    have nm : r.2.2.2.2.2 = none := (hd_nm hB e).2.2 (Or.inl k17)
    rw [nm] at R1 kn
    have hc := hI.2.2.2.2.2
    refine ih 3 K r.1 (rwP (40 * m + npS σ) none r.2.1) r.2.2.2.2.1 (npS σ) (r.2.1.1.1 4) 1 0 0 M1 (by decide) t0 ⟨okw, hI.2.1, fun z => absurd z (by decide), fun _ => ⟨hl, by rw [n2, n3]; exact Nat.lt_succ_self _, by rw [n1]; exact Nat.lt_succ_self _⟩, fun z => absurd z (by decide), by rw [n2, n1]; omega⟩ kn (fun _ => ⟨by rw [x58, k17]; decide, n69, by decide, by decide⟩) R1 (by rw [w3]; omega) ?_
    cases e3 : rp b n m τ g 3 K r.1 (rwP (40 * m + npS σ) none r.2.1) r.2.2.2.2.1 (npS σ) (r.2.1.1.1 4) 1 0 0 with
    | error y => rw [e3] at hE2; exact fun M2 T2 G2 => hE2 M2 T2 (G1.tr G2)
    | ok q => rw [e3] at hE2; exact fun M2 R2 G2 _ => hE2 M2 (R2.cg rfl rfl) (G1.tr G2) (fun z => absurd z (by decide))
  · rw [if_neg k17] at hE2
    by_cases kc : tK b n i = 44 ∨ tK b n i = 58
    · refine R_ch hB hz hS ih hi h0 hI hN hg ho ha hop e kc ?_ M1 R1 G1
      cases e0 : rp b n m τ g 0 ((40 * m + npS σ, r.2.1.1.1 4, 1, r.2.2.2.2.2) :: K) r.1 (rwP (40 * m + npS σ) none r.2.1) 0 0 0 0 0 0 with
      | error y => rw [e0] at hE2; exact hE2
      | ok q =>
        rw [e0] at hE2
        have hE2 : EndZ b n s m τ K 2 a2 h M Q (if tK b n i = 44 ∨ tK b n i = 58 then _ else _) := hE2
        rw [if_pos kc] at hE2
        exact hE2
    · refine R_hh hB hz hS ih hi h0 hI hN hg ho ha hop e k17 (fun z => kc (Or.inl z)) (fun z => kc (Or.inr z)) ?_ M1 R1 G1
      cases e0 : rp b n m τ g 0 ((40 * m + npS σ, r.2.1.1.1 4, 1, r.2.2.2.2.2) :: K) r.1 (rwP (40 * m + npS σ) none r.2.1) 0 0 0 0 0 0 with
      | error y => rw [e0] at hE2; exact hE2
      | ok q =>
        rw [e0] at hE2
        have hE2 : EndZ b n s m τ K 2 a2 h M Q (if tK b n i = 44 ∨ tK b n i = 58 then _ else _) := hE2
        rw [if_neg kc] at hE2
        exact hE2
theorem R_rp (hB : By b) (hz : ∀ i, n ≤ i → b i = 0) (hS : Sto b n s) (hM : MxOk τ) : ∀ g, RpS b n s m τ h Q g := by
  intro g
  induction g with
  | zero => intro md K i σ a1 a2 a3 a4 c1 c2 M hmd h0 hI hN h3 hR hg hE; have := hR.2.1.2.2; omega
  | succ g ih =>
    intro md K i σ a1 a2 a3 a4 c1 c2 M hmd h0 hI hN h3 hR hg hE
    rcases (show md = 0 ∨ md = 1 ∨ md = 2 ∨ md = 3 by omega) with rfl | rfl | rfl | rfl
    · rw [w0] at hg; exact R_row hS ih hR h0 hI hN hg hE
    · rw [w1] at hg; exact R_more hB hz hS ih hR h0 hI hN hg hE
    · rw [w2] at hg; exact R_pt hB hz hS hM ih hR h0 hI hN hg hE
    · rw [w3] at hg; exact R_branch hB hz hS ih hR h0 hI hN (h3 rfl) hg hE
end
end
section
/-! what is told of sums: the kinds of mixing -/
theorem mx_app {l : List Int32} {x : Int32} {k : Nat} (h : ∀ k, l.getD k 0 = 0 ∨ l.getD k 0 = 33 ∨ l.getD k 0 = 34 ∨ l.getD k 0 = 35) (hx : x = 0 ∨ x = 33 ∨ x = 34 ∨ x = 35) : (l ++ [x]).getD k 0 = 0 ∨ (l ++ [x]).getD k 0 = 33 ∨ (l ++ [x]).getD k 0 = 34 ∨ (l ++ [x]).getD k 0 = 35 := by
  by_cases q : k < l.length + 1
  · rw [getD_app q]
    by_cases z : k = l.length
    · rw [if_pos z]; exact hx
    · rw [if_neg z]; exact h k
  · left
    rw [List.getD_eq_getElem?_getD, List.getElem?_eq_none (by rw [List.length_append]; show l.length + 1 ≤ k; omega)]
    rfl
theorem td_mx {b : Nat → Int32} {n : Nat} : ∀ (g i : Nat) (τ : Td) (r : Nat × Td), MxOk τ → td b n g i τ = .ok r → MxOk r.2 := by
  intro g
  induction g with
  | zero => intro i τ r _ h; unfold td at h; cases h
  | succ g ih =>
    intro i τ r hM h
    unfold td at h
    by_cases k1 : tK b n i = 36
    · rw [if_pos k1] at h
      obtain ⟨j, -, h⟩ := bind_ok h
      obtain ⟨k, -, h⟩ := bind_ok h
      obtain ⟨q, -, h⟩ := bind_ok h
      obtain ⟨l, -, h⟩ := bind_ok h
      refine ih _ _ _ ?_ h
      exact fun k => hM k
    rw [if_neg k1] at h
    by_cases k2 : tK b n i = 30 ∨ tK b n i = 31 ∨ tK b n i = 32
    · rw [if_pos k2] at h
      obtain ⟨j, -, h⟩ := bind_ok h
      obtain ⟨k, -, h⟩ := bind_ok h
      obtain ⟨q, hq, h⟩ := bind_ok h
      obtain ⟨l, -, h⟩ := bind_ok h
      refine ih _ _ _ ?_ h
      intro x
      refine mx_app (l := τ.2.2.1) hM ?_
      unfold tdH at hq
      by_cases k3 : tK b n k = 4
      · rw [if_pos k3] at hq
        obtain ⟨y, -, hq⟩ := bind_ok hq
        by_cases k4 : tK b n y = 33 ∨ tK b n y = 34 ∨ tK b n y = 35
        · rw [if_pos k4] at hq
          obtain ⟨z, -, hq⟩ := bind_ok hq
          cases hq
          exact Or.inr k4
        · rw [if_neg k4] at hq; cases hq
      · rw [if_neg k3] at hq
        cases hq
        exact Or.inl rfl
    rw [if_neg k2] at h
    cases h
    exact hM
end
section
/-! the class reads parts: its state -/
def tlK (K : List KE) : List Int64 := K.filterMap (fun e => e.2.2.2)
def PtR (n0 : Nat) (M : Mem) (ps : List Nat) (A : Nat → Nat → Int32) : Prop := (∀ j, j < ps.length → ok M (ps.getD j 0) 5 ∧ n0 + 25 ≤ ps.getD j 0 ∧ ∀ f, f < 8 → mI M (ps.getD j 0) f = A j f) ∧ ∀ i j, i < ps.length → j < ps.length → ps.getD i 0 = ps.getD j 0 → i = j
/-- the lists: the parts, the literals of ifs -/
def LPt (n0 : Nat) (M : Mem) (ps : List Nat) (A : Nat → Nat → Int32) (xs : List Int32) (pb ib : Nat) : Prop := ALp M (n0 + 7) pb 5 ps ∧ ALi M (n0 + 15) ib xs ∧ (pb = mBig + 5 ∨ n0 + 25 ≤ pb) ∧ (ib = mBig + 5 ∨ n0 + 25 ≤ ib) ∧ (pb = ib → pb = mBig + 5) ∧ PtR n0 M ps A
/-- the reader's own: traps, pauses begun, given, used; the module's ifs and depth -/
def RdQ (n0 : Nat) (M : Mem) (g u : Int32) (cn : Nat → Nat) (tl : List Int64) : Prop := (mI M 14 3 = Int32.ofNat tl.length ∧ tl.length ≤ 16 ∧ ∀ j, j < tl.length → mAJ M 20 j = tl.getD (tl.length - 1 - j) 0) ∧ mI M 14 4 = Int32.ofNat (cn 1) ∧ mI M 14 5 = g ∧ mI M 14 6 = u ∧ mI M n0 14 = Int32.ofNat (cn 2) ∧ mI M n0 15 = Int32.ofNat (cn 3)
/-- what reading parts may change -/
def FrQ (n0 : Nat) (M M' : Mem) : Prop := fr (fun c => (4 ≤ c ∧ c ≤ 15) ∨ c = 20 ∨ c = n0 ∨ c = n0 + 7 ∨ c = n0 + 8 ∨ c = n0 + 9 ∨ c = n0 + 10 ∨ c = n0 + 15 ∨ c = n0 + 16 ∨ c = n0 + 22 ∨ c = n0 + 23 ∨ n0 + 25 ≤ c) M M' ∧ (∀ f, f ≠ 14 → f ≠ 15 → mI M' n0 f = mI M n0 f) ∧ mR M' n0 = mR M n0 ∧ (∀ f, f ≠ 4 → mI M' (n0 + 8) f = mI M (n0 + 8) f) ∧ (∀ f, f ≠ 0 → f ≠ 1 → mR M' (n0 + 8) f = mR M (n0 + 8) f) ∧ (∀ f, f ≠ 1 → mI M' (n0 + 22) f = mI M (n0 + 22) f) ∧ (∀ f, f ≠ 0 → mR M' (n0 + 22) f = mR M (n0 + 22) f) ∧ mR M' 14 = mR M 14
theorem FrQ.rf {n0 : Nat} {M : Mem} : FrQ n0 M M := ⟨fr.rf, fun _ _ _ => rfl, rfl, fun _ _ => rfl, fun _ _ _ => rfl, fun _ _ => rfl, fun _ _ => rfl, rfl⟩
theorem FrQ.tr {n0 : Nat} {M M1 M2 : Mem} (h : FrQ n0 M M1) (k : FrQ n0 M1 M2) : FrQ n0 M M2 := by
  obtain ⟨h1, h2, h3, h4, h5, h6, h7, h8⟩ := h
  obtain ⟨k1, k2, k3, k4, k5, k6, k7, k8⟩ := k
  exact ⟨h1.tr k1 (fun _ _ z => z), fun f q1 q2 => (k2 f q1 q2).trans (h2 f q1 q2), k3.trans h3, fun f q => (k4 f q).trans (h4 f q), fun f q1 q2 => (k5 f q1 q2).trans (h5 f q1 q2), fun f q => (k6 f q).trans (h6 f q), fun f q => (k7 f q).trans (h7 f q), k8.trans h8⟩
theorem FrQ.of {n0 : Nat} {M M' : Mem} {S : Nat → Prop} (k : fr S M M') (hS : ∀ c, S c → (4 ≤ c ∧ c ≤ 15) ∨ c = 20 ∨ n0 + 25 ≤ c) (hn : n0 + 25 ≤ mN M) (h0 : 132 ≤ n0) (e : mR M' 14 = mR M 14) : FrQ n0 M M' := by
  have r0 := k.2 n0 (by omega) (fun z => by have := hS _ z; omega)
  have r8 := k.2 (n0 + 8) (by omega) (fun z => by have := hS _ z; omega)
  have r2 := k.2 (n0 + 22) (by omega) (fun z => by have := hS _ z; omega)
  exact ⟨k.more (fun a _ z => by have := hS _ z; omega), fun f _ _ => by rw [r0.1], r0.2.2.1, fun f _ => by rw [r8.1], fun f _ _ => by rw [r8.2.2.1], fun f _ => by rw [r2.1], fun f _ => by rw [r2.2.2.1], e⟩
def RmQ (M0 M : Mem) (N : Nt) (l : List Int32) (ps : List Nat) (xs : List Int32) (lc cc : Nat) : Prop := mN M ≤ mN M0 + 2 * N.length + l.length + 3 * ps.length + 4 * xs.length ∧ mS M ≤ mS M0 + 4 * mL M lc + 2 * mL M cc + (12 * xs.length + xs.length * xs.length) + (24 * ps.length + ps.length * ps.length) ∧ mN M0 ≤ 1000000
def CQh (n0 : Nat) (τ : Td) (M0 M : Mem) (γ : ClT) (cn : Nat → Nat) (ps : List Nat) (tl : List Int64) (lc rc cc pb ib : Nat) : Prop :=
  CB n0 τ.1 τ.2.1 τ.2.2.1 τ.2.2.2.1 M γ.2.2.1 lc rc (sgT τ.1.length) γ.2.2.2.1 ∧ (SumP M (n0 + 22) cc γ.2.2.2.2.2.1 ∧ (cc = n0 + 23 ∨ n0 + 25 ≤ cc) ∧ cc ≠ lc ∧ cc ≠ rc) ∧ TrP M γ.2.1 ∧ LPt n0 M ps γ.1 γ.2.2.2.2.1 pb ib ∧ RdQ n0 M γ.2.2.2.2.2.2.1 γ.2.2.2.2.2.2.2 cn tl ∧ FrQ n0 M0 M ∧ RmQ M0 M γ.2.2.1 γ.2.2.2.2.2.1 ps γ.2.2.2.2.1 lc cc ∧ (mR M n0 6 = some (n0 + 7) ∧ mR M n0 8 = some (n0 + 22) ∧ mR M (n0 + 8) 7 = some (n0 + 15)) ∧ (ps.length = cn 0 ∧ cn 0 ≤ 40 ∧ γ.2.2.2.2.1.length ≤ 80)
def CQ (n0 : Nat) (τ : Td) (M0 M : Mem) (γ : ClT) (cn : Nat → Nat) (ps : List Nat) (tl : List Int64) : Prop := ∃ lc rc cc pb ib : Nat, CQh n0 τ M0 M γ cn ps tl lc rc cc pb ib
section
variable {n0 : Nat} {τ : Td} {M0 M M' : Mem} {γ : ClT} {cn : Nat → Nat} {ps : List Nat} {tl : List Int64} {lc rc cc pb ib : Nat} {S : Nat → Prop}
theorem PtR.fr {A : Nat → Nat → Int32} (h : PtR n0 M ps A) (k : fr S M M') (nS : ∀ c, S c → mK M c ≠ 5) : PtR n0 M' ps A := by
  refine ⟨fun j hj => ?_, h.2⟩
  obtain ⟨h1, h2, h3⟩ := h.1 j hj
  have r := k.2 _ h1.1 (fun z => nS _ z h1.2)
  exact ⟨ok_E h1 k.1, h2, fun f hf => by rw [r.1]; exact h3 f hf⟩
theorem LPt.fr {A : Nat → Nat → Int32} {xs : List Int32} (h : LPt n0 M ps A xs pb ib) (k : fr S M M') (nS : ∀ c, S c → mK M c ≠ 0 ∧ mK M c ≠ 1 ∧ mK M c ≠ 5 ∧ mK M c ≠ 24) : LPt n0 M' ps A xs pb ib := by
  obtain ⟨h1, h2, h3, h4, h5, h6⟩ := h
  have o7 := h1.1
  have o15 : ok M (n0 + 15) 1 := by obtain ⟨l, q, -⟩ := h2; exact q.1
  exact ⟨h1.fr k (fun z => (nS _ z).2.1 o7.2) (fun e z => (nS _ z).2.2.2 e), h2.fr k (fun z => (nS _ z).2.1 o15.2) (fun e z => (nS _ z).2.2.2 e) (fun c _ z => (nS c z).1), h3, h4, h5, h6.fr k (fun c z => (nS c z).2.2.1)⟩
theorem CB.fr {sN : List Int64} {ro mx : List Int32} {vN : List Int64} {N : Nt} {sg bf : Nat → Nat} (h : CB n0 sN ro mx vN M N lc rc sg bf) (hE : mE M M') (q : ∀ c, (n0 ≤ c ∧ c ≤ n0 + 5) ∨ c = n0 + 8 ∨ c = n0 + 16 ∨ c = n0 + 20 ∨ c = lc ∨ c = rc → sameRow M M' c) (e : mR M' 14 = mR M 14) : CB n0 sN ro mx vN M' N lc rc sg bf := by
  obtain ⟨h1, h2, h3, h4, h5, h6, ⟨s1, s2, s3⟩, h7, ⟨b1, b2, b3⟩, h8, h9, h10⟩ := h
  have r0 := q n0 (Or.inl ⟨by omega, by omega⟩)
  have r8 := q (n0 + 8) (Or.inr (Or.inl rfl))
  have r16 := q (n0 + 16) (Or.inr (Or.inr (Or.inl rfl)))
  have r20 := q (n0 + 20) (Or.inr (Or.inr (Or.inr (Or.inl rfl))))
  have rl := q lc (Or.inr (Or.inr (Or.inr (Or.inr (Or.inl rfl)))))
  have rr := q rc (Or.inr (Or.inr (Or.inr (Or.inr (Or.inr rfl)))))
  exact ⟨h1.fr hE (fun a q1 q2 => q a (Or.inl ⟨q1, q2⟩)), h2.fr hE r8 rl rr, h3, h4, by rw [r0.2.2.1]; exact h5, by rw [r8.2.2.1]; exact h6, ⟨ok_E s1 hE, (hE.2.2 _ s1.1).2.trans s2, fun j hj => by rw [r20.2.2.2.1]; exact s3 j hj⟩, by rw [r8.2.2.1]; exact h7, ⟨ok_E b1 hE, (hE.2.2 _ b1.1).2.trans b2, fun j hj => by rw [r16.2.2.2.1]; exact b3 j hj⟩, by rw [e]; exact h8, h9, Nat.le_trans h10 hE.1⟩
/-- where the cells of the state lie -/
theorem CQh.lim (h : CQh n0 τ M0 M γ cn ps tl lc rc cc pb ib) : 132 ≤ n0 ∧ n0 + 25 ≤ mN M ∧ (lc = n0 + 9 ∨ n0 + 25 ≤ lc) ∧ (rc = n0 + 10 ∨ n0 + 25 ≤ rc) ∧ (cc = n0 + 23 ∨ n0 + 25 ≤ cc) ∧ ok M lc 21 ∧ ok M rc 21 ∧ ok M cc 21 ∧ ok M n0 3 ∧ ok M (n0 + 8) 2 ∧ ok M (n0 + 22) 8 ∧ mR M 14 7 = some n0 ∧ mR M n0 7 = some (n0 + 8) := by
  obtain ⟨h1, ⟨h2, h3, -⟩, -⟩ := h
  obtain ⟨a1, a2, a3, a4, a5, a6, a7, a8, a9, a10, a11, a12⟩ := h1
  exact ⟨a11, a12, a3, a4, h3, a2.2.2.1, a2.2.2.2.2.1, h2.2.2.1, a1.1, a2.1, h2.1, a10, a5⟩
/-- cells of none of the state's rows but the tokens', the tree's, the reader's or the parts' change: what stays of it -/
theorem CQh.cb (h : CQh n0 τ M0 M γ cn ps tl lc rc cc pb ib) (k : fr S M M') (hS : ∀ c, S c → (c < 132) ∨ (n0 + 25 ≤ c ∧ mK M c ≠ 21)) (e : mR M' 14 = mR M 14) : CB n0 τ.1 τ.2.1 τ.2.2.1 τ.2.2.2.1 M' γ.2.2.1 lc rc (sgT τ.1.length) γ.2.2.2.1 ∧ (SumP M' (n0 + 22) cc γ.2.2.2.2.2.1 ∧ (cc = n0 + 23 ∨ n0 + 25 ≤ cc) ∧ cc ≠ lc ∧ cc ≠ rc) ∧ mL M' lc = mL M lc ∧ mL M' cc = mL M cc ∧ mR M' n0 = mR M n0 ∧ mR M' (n0 + 8) = mR M (n0 + 8) ∧ mI M' n0 = mI M n0 := by
  obtain ⟨q1, q2, q3, q4, q5, ol, or, oc, -⟩ := h.lim
  obtain ⟨h1, ⟨h2, h3⟩, -⟩ := h
  have lo : ∀ c, n0 ≤ c → c < n0 + 25 → sameRow M M' c := fun c z1 z2 => k.2 c (by omega) (fun z => by have := hS c z; omega)
  have hi : ∀ c, ok M c 21 → 132 ≤ c → sameRow M M' c := fun c z1 z2 => k.2 c z1.1 (fun z => by rcases hS c z with y | y; omega; exact y.2 z1.2)
  have r0 := lo n0 (by omega) (by omega)
  have r8 := lo (n0 + 8) (by omega) (by omega)
  refine ⟨h1.fr k.1 (fun c z => ?_) e, ⟨h2.fr k.1 (lo _ (by omega) (by omega)) (hi _ oc (by omega)), h3⟩, (k.1.2.2 _ ol.1).2, (k.1.2.2 _ oc.1).2, r0.2.2.1, r8.2.2.1, r0.1⟩
  rcases z with z | z | z | z | z | z
  · exact lo c (by omega) (by omega)
  · exact lo c (by omega) (by omega)
  · exact lo c (by omega) (by omega)
  · exact lo c (by omega) (by omega)
  · rw [z]; exact hi _ ol (by omega)
  · rw [z]; exact hi _ or (by omega)
theorem CQ.cnt {cn' : Nat → Nat} (h : CQ n0 τ M0 M γ cn ps tl) (e0 : cn' 0 = cn 0) (e1 : cn' 1 = cn 1) (e2 : cn' 2 = cn 2) (e3 : cn' 3 = cn 3) : CQ n0 τ M0 M γ cn' ps tl := by
  obtain ⟨lc, rc, cc, pb, ib, h1, h2, h3, h4, ⟨r1, r2, r3, r4, r5, r6⟩, h6, h7, h8, h9⟩ := h
  exact ⟨lc, rc, cc, pb, ib, h1, h2, h3, h4, ⟨r1, by rw [e1]; exact r2, r3, r4, by rw [e2]; exact r5, by rw [e3]; exact r6⟩, h6, h7, h8, by rw [e0]; exact h9⟩
/-- tokens move -/
theorem CQ.t (h : CQ n0 τ M0 M γ cn ps tl) (F : Fix M) (k : TFr M M') : CQ n0 τ M0 M' γ cn ps tl := by
  obtain ⟨lc, rc, cc, pb, ib, h⟩ := h
  obtain ⟨q1, q2, -⟩ := h.lim
  obtain ⟨c1, c2, c3, c4, c5, c6, c7⟩ := h.cb k.fr (fun c z => by omega) (by rw [k.2.2.2.2.1])
  obtain ⟨h1, h2, h3, h4, h5, h6, h7, h8, h9⟩ := h
  have o15 : mK M 15 = 9 := (ok15 F).2
  have r14 := k.row (a := 14) (by decide)
  have r20 := k.row (a := 20) (by decide)
  obtain ⟨t1, t2, t3, t4, t5⟩ := h3
  refine ⟨lc, rc, cc, pb, ib, c1, c2, ⟨by rw [(k.row (a := 4) (by decide)).1]; exact t1, by rw [(k.row (a := 4) (by decide)).1]; exact t2, t3, fun c z1 z2 => by rw [k.2.2.2.2.2.1]; exact t4 c z1 z2, t5⟩, h4.fr k.fr (fun c z => by rw [z, o15]; decide), ?_, h6.tr (FrQ.of k.fr (fun c z => by omega) q2 q1 (by rw [k.2.2.2.2.1])), ⟨by rw [k.1]; exact h7.1, by rw [k.2.1, c3, c4]; exact h7.2.1, h7.2.2⟩, by rw [c5, c6]; exact h8, h9⟩
  unfold RdQ
  rw [r14.1, r20.2.2.2.2.1, c7]
  exact h5
/-- the tree changes -/
theorem CQ.tree {Θ : TrT} (h : CQ n0 τ M0 M γ cn ps tl) (F : Fix M) (k : TrF M M') (hT : TrP M' Θ) : CQ n0 τ M0 M' (γ.1, Θ, γ.2.2) cn ps tl := by
  obtain ⟨lc, rc, cc, pb, ib, h⟩ := h
  obtain ⟨q1, q2, -⟩ := h.lim
  have kf : fr (fun c => 4 ≤ c ∧ c ≤ 13) M M' := ⟨k.e, fun a _ hn => k.row (by omega)⟩
  obtain ⟨c1, c2, c3, c4, c5, c6, c7⟩ := h.cb kf (fun c z => by omega) (by rw [k.2.2.2.2.1])
  obtain ⟨h1, h2, h3, h4, h5, h6, h7, h8, h9⟩ := h
  have o4 : mK M 4 = 10 := (ok4 F).2
  have oA : ∀ c, 5 ≤ c → c ≤ 13 → mK M c = 21 := by
    intro c z1 z2
    rcases (show c = 5 ∨ c = 6 ∨ c = 7 ∨ c = 8 ∨ c = 9 ∨ c = 10 ∨ c = 11 ∨ c = 12 ∨ c = 13 by omega) with rfl | rfl | rfl | rfl | rfl | rfl | rfl | rfl | rfl
    · exact (ok5 F).2
    · exact (ok6 F).2
    · exact (ok7 F).2
    · exact (ok8 F).2
    · exact (ok9 F).2
    · exact (ok10 F).2
    · exact (ok11 F).2
    · exact (ok12 F).2
    · exact (ok13 F).2
  have r14 := k.row (a := 14) (by decide)
  have r20 := k.row (a := 20) (by decide)
  refine ⟨lc, rc, cc, pb, ib, c1, c2, hT, h4.fr kf (fun c z => ?_), ?_, h6.tr (FrQ.of kf (fun c z => by omega) q2 q1 (by rw [k.2.2.2.2.1])), ⟨by rw [k.1]; exact h7.1, by rw [k.2.1, c3, c4]; exact h7.2.1, h7.2.2⟩, by rw [c5, c6]; exact h8, h9⟩
  · by_cases y : c = 4
    · rw [y, o4]; decide
    · rw [oA c (by omega) z.2]; decide
  · unfold RdQ
    rw [r14.1, r20.2.2.2.2.1, c7]
    exact h5
end
end
section
/-! the class reads parts: writes into parts, the reader, the module -/
section
variable {n0 : Nat} {τ : Td} {M0 M M' : Mem} {γ : ClT} {cn cn' : Nat → Nat} {ps : List Nat} {tl tl' : List Int64} {g u : Int32}
/-- a field of a part is written -/
theorem CQ.pt {j f : Nat} {v : Int32} (h : CQ n0 τ M0 M γ cn ps tl) (hj : j < ps.length) (e : M' = wI M (ps.getD j 0) f v) : CQ n0 τ M0 M' (up2 γ.1 j f v, γ.2) cn ps tl := by
  obtain ⟨lc, rc, cc, pb, ib, h⟩ := h
  obtain ⟨q1, q2, -⟩ := h.lim
  obtain ⟨op, gp, -⟩ := h.2.2.2.1.2.2.2.2.2.1 j hj
  have kf : fr (fun c => c = ps.getD j 0) M M' := by rw [e]; exact fr_wI (S := fun c => c = ps.getD j 0) rfl
  have kp : ∀ c, c = ps.getD j 0 → mK M c = 5 := fun c z => by rw [z]; exact op.2
  obtain ⟨c1, c2, c3, c4, c5, c6, c7⟩ := h.cb kf (fun c z => Or.inr ⟨by rw [z]; exact gp, by rw [kp c z]; decide⟩) (by rw [e]; rfl)
  obtain ⟨h1, h2, ⟨t1, t2, t3, t4, t5⟩, ⟨l1, l2, l3, l4, l5, l6⟩, h5, h6, h7, h8, h9⟩ := h
  have eN : mN M' = mN M := by rw [e]; rfl
  have eS : mS M' = mS M := by rw [e]; rfl
  have r4 : mI M' 4 = mI M 4 := (kf.2 4 (by omega) (by omega)).1
  have r14 := kf.2 14 (by omega) (by omega)
  have r20 := kf.2 20 (by omega) (by omega)
  have o15 : ok M (n0 + 15) 1 := by obtain ⟨l, q, -⟩ := l2; exact q.1
  refine ⟨lc, rc, cc, pb, ib, c1, c2, ⟨by rw [r4]; exact t1, by rw [r4]; exact t2, t3, fun c z1 z2 => by rw [e]; exact t4 c z1 z2, t5⟩, ⟨l1.fr kf (fun z => by have := l1.1.2; rw [kp _ z] at this; exact absurd this (by decide)) (fun y z => by rw [kp _ z] at y; exact absurd y (by decide)), l2.fr kf (fun z => by have := o15.2; rw [kp _ z] at this; exact absurd this (by decide)) (fun y z => by rw [kp _ z] at y; exact absurd y (by decide)) (fun c _ z => by rw [kp c z]; decide), l3, l4, l5, ⟨fun j2 hj2 => ?_, l6.2⟩⟩, ?_, h6.tr (FrQ.of kf (fun c z => by omega) q2 q1 (by rw [e]; rfl)), ⟨by rw [eN]; exact h7.1, by rw [eS, c3, c4]; exact h7.2.1, h7.2.2⟩, by rw [c5, c6]; exact h8, h9⟩
  · obtain ⟨a1, a2, a3⟩ := l6.1 j2 hj2
    refine ⟨ok_E a1 kf.1, a2, fun f2 hf2 => ?_⟩
    show _ = up2 γ.1 j f v j2 f2
    rw [e, mI_wI]
    by_cases z : j2 = j ∧ f2 = f
    · rw [if_pos ⟨by rw [z.1], z.2⟩, z.1, z.2, up2_eq]
    · rw [if_neg (fun y => z ⟨l6.2 j2 j hj2 hj y.1, y.2⟩), up2_ne z]
      exact a3 f2 hf2
  · unfold RdQ
    rw [r14.1, r20.2.2.2.2.1, c7]
    exact h5
/-- the reader's own fields change -/
theorem CQ.rq (h : CQ n0 τ M0 M γ cn ps tl) (F : Fix M) (k : fr (fun c => c = 14 ∨ c = 20) M M') (e : mR M' 14 = mR M 14) (en : mN M' = mN M) (es : mS M' = mS M) (hr : RdQ n0 M' g u cn' tl') (e0 : cn' 0 = cn 0) : CQ n0 τ M0 M' (γ.1, γ.2.1, γ.2.2.1, γ.2.2.2.1, γ.2.2.2.2.1, γ.2.2.2.2.2.1, g, u) cn' ps tl' := by
  obtain ⟨lc, rc, cc, pb, ib, h⟩ := h
  obtain ⟨q1, q2, -⟩ := h.lim
  obtain ⟨c1, c2, c3, c4, c5, c6, c7⟩ := h.cb k (fun c z => by omega) e
  obtain ⟨h1, h2, ⟨t1, t2, t3, t4, t5⟩, h4, h5, h6, h7, h8, h9⟩ := h
  have o14 : mK M 14 = 6 := (ok14 F).2
  have o20 : mK M 20 = 23 := (ok20 F).2
  have r4 : mI M' 4 = mI M 4 := (k.2 4 (by omega) (by omega)).1
  refine ⟨lc, rc, cc, pb, ib, c1, c2, ⟨by rw [r4]; exact t1, by rw [r4]; exact t2, t3, fun c z1 z2 => by rw [(k.2 c (by omega) (by omega)).2.2.2.1]; exact t4 c z1 z2, t5⟩, h4.fr k (fun c z => ?_), hr, h6.tr (FrQ.of k (fun c z => by omega) q2 q1 e), ⟨by rw [en]; exact h7.1, by rw [es, c3, c4]; exact h7.2.1, h7.2.2⟩, by rw [c5, c6]; exact h8, by rw [e0]; exact h9⟩
  rcases z with z | z
  · rw [z, o14]; decide
  · rw [z, o20]; decide
theorem CQ.rd (h : CQ n0 τ M0 M γ cn ps tl) : RdQ n0 M γ.2.2.2.2.2.2.1 γ.2.2.2.2.2.2.2 cn tl := by
  obtain ⟨lc, rc, cc, pb, ib, h⟩ := h
  exact h.2.2.2.2.1
theorem CQ.nz (h : CQ n0 τ M0 M γ cn ps tl) : 132 ≤ n0 ∧ n0 + 25 ≤ mN M ∧ ok M n0 3 ∧ ok M (n0 + 8) 2 ∧ ok M (n0 + 22) 8 ∧ mR M 14 7 = some n0 ∧ mR M n0 7 = some (n0 + 8) ∧ mR M n0 6 = some (n0 + 7) ∧ mR M n0 8 = some (n0 + 22) ∧ mR M (n0 + 8) 7 = some (n0 + 15) := by
  obtain ⟨lc, rc, cc, pb, ib, h⟩ := h
  obtain ⟨a1, a2, a3, a4, a5, a6, a7, a8, a9, a10, a11, a12, a13⟩ := h.lim
  exact ⟨a1, a2, a9, a10, a11, a12, a13, h.2.2.2.2.2.2.2.1.1, h.2.2.2.2.2.2.2.1.2.1, h.2.2.2.2.2.2.2.1.2.2⟩
theorem CQ.env (h : CQ n0 τ M0 M γ cn ps tl) : EnvC M n0 τ.1 τ.2.1 τ.2.2.1 τ.2.2.2.1 := by
  obtain ⟨lc, rc, cc, pb, ib, h⟩ := h
  exact h.1.1
theorem CQ.trp (h : CQ n0 τ M0 M γ cn ps tl) : TrP M γ.2.1 := by
  obtain ⟨lc, rc, cc, pb, ib, h⟩ := h
  exact h.2.2.1
/-- the j-th part -/
theorem CQ.part {j : Nat} (h : CQ n0 τ M0 M γ cn ps tl) (hj : j < ps.length) : ok M (ps.getD j 0) 5 ∧ n0 + 25 ≤ ps.getD j 0 ∧ ∀ f, f < 8 → mI M (ps.getD j 0) f = γ.1 j f := by
  obtain ⟨lc, rc, cc, pb, ib, h⟩ := h
  exact h.2.2.2.1.2.2.2.2.2.1 j hj
theorem CQ.len (h : CQ n0 τ M0 M γ cn ps tl) : ps.length = cn 0 ∧ cn 0 ≤ 40 ∧ γ.2.2.2.2.1.length ≤ 80 := by
  obtain ⟨lc, rc, cc, pb, ib, h⟩ := h
  exact h.2.2.2.2.2.2.2.2
theorem CQ.gv {v : Int32} (h : CQ n0 τ M0 M γ cn ps tl) (F : Fix M) (e : M' = wI M 14 5 v) : CQ n0 τ M0 M' (γ.1, γ.2.1, γ.2.2.1, γ.2.2.2.1, γ.2.2.2.2.1, γ.2.2.2.2.2.1, v, γ.2.2.2.2.2.2.2) cn ps tl := by
  have hn := h.nz.1
  obtain ⟨⟨r1, r2, r3⟩, r4, r5, r6, r7, r8⟩ := h.rd
  refine h.rq F (by rw [e]; exact fr_wI (S := fun c => c = 14 ∨ c = 20) (Or.inl rfl)) (by rw [e]; rfl) (by rw [e]; rfl) (by rw [e]; rfl) ⟨⟨?_, r2, ?_⟩, ?_, ?_, ?_, ?_, ?_⟩ rfl
  · rw [e, mI_wI, if_neg (by decide)]; exact r1
  · rw [e]; exact r3
  · rw [e, mI_wI, if_neg (by decide)]; exact r4
  · rw [e, mI_wI, if_pos ⟨rfl, rfl⟩]
  · rw [e, mI_wI, if_neg (by decide)]; exact r6
  · rw [e, mI_wI, if_neg (by omega)]; exact r7
  · rw [e, mI_wI, if_neg (by omega)]; exact r8
theorem CQ.uv {v : Int32} (h : CQ n0 τ M0 M γ cn ps tl) (F : Fix M) (e : M' = wI M 14 6 v) : CQ n0 τ M0 M' (γ.1, γ.2.1, γ.2.2.1, γ.2.2.2.1, γ.2.2.2.2.1, γ.2.2.2.2.2.1, γ.2.2.2.2.2.2.1, v) cn ps tl := by
  have hn := h.nz.1
  obtain ⟨⟨r1, r2, r3⟩, r4, r5, r6, r7, r8⟩ := h.rd
  refine h.rq F (by rw [e]; exact fr_wI (S := fun c => c = 14 ∨ c = 20) (Or.inl rfl)) (by rw [e]; rfl) (by rw [e]; rfl) (by rw [e]; rfl) ⟨⟨?_, r2, ?_⟩, ?_, ?_, ?_, ?_, ?_⟩ rfl
  · rw [e, mI_wI, if_neg (by decide)]; exact r1
  · rw [e]; exact r3
  · rw [e, mI_wI, if_neg (by decide)]; exact r4
  · rw [e, mI_wI, if_neg (by decide)]; exact r5
  · rw [e, mI_wI, if_pos ⟨rfl, rfl⟩]
  · rw [e, mI_wI, if_neg (by omega)]; exact r7
  · rw [e, mI_wI, if_neg (by omega)]; exact r8
theorem CQ.pv {v : Nat} (h : CQ n0 τ M0 M γ cn ps tl) (F : Fix M) (e : M' = wI M 14 4 (Int32.ofNat v)) : CQ n0 τ M0 M' γ (va_up cn 1 v) ps tl := by
  have hn := h.nz.1
  obtain ⟨⟨r1, r2, r3⟩, r4, r5, r6, r7, r8⟩ := h.rd
  refine h.rq (g := γ.2.2.2.2.2.2.1) (u := γ.2.2.2.2.2.2.2) F (by rw [e]; exact fr_wI (S := fun c => c = 14 ∨ c = 20) (Or.inl rfl)) (by rw [e]; rfl) (by rw [e]; rfl) (by rw [e]; rfl) ⟨⟨?_, r2, ?_⟩, ?_, ?_, ?_, ?_, ?_⟩ rfl
  · rw [e, mI_wI, if_neg (by decide)]; exact r1
  · rw [e]; exact r3
  · rw [e, mI_wI, if_pos ⟨rfl, rfl⟩]; rfl
  · rw [e, mI_wI, if_neg (by decide)]; exact r5
  · rw [e, mI_wI, if_neg (by decide)]; exact r6
  · rw [e, mI_wI, if_neg (by omega)]; exact r7
  · rw [e, mI_wI, if_neg (by omega)]; exact r8
/-- a trap is opened, is closed -/
theorem CQ.push {c : Int64} (h : CQ n0 τ M0 M γ cn ps tl) (F : Fix M) (hl : tl.length < 16) (e : M' = wI (wAJ M 20 tl.length c) 14 3 (Int32.ofNat (tl.length + 1))) : CQ n0 τ M0 M' γ cn ps (c :: tl) := by
  have hn := h.nz.1
  obtain ⟨⟨r1, r2, r3⟩, r4, r5, r6, r7, r8⟩ := h.rd
  refine h.rq (g := γ.2.2.2.2.2.2.1) (u := γ.2.2.2.2.2.2.2) F (by rw [e]; exact (fr_wAJ (S := fun c => c = 14 ∨ c = 20) (Or.inr rfl)).tr (fr_wI (S := fun c => c = 14 ∨ c = 20) (Or.inl rfl)) (fun _ _ z => z)) (by rw [e]; rfl) (by rw [e]; rfl) (by rw [e]; rfl) ⟨⟨?_, by simp only [List.length_cons]; omega, fun j hj => ?_⟩, ?_, ?_, ?_, ?_, ?_⟩ rfl
  · rw [e, mI_wI, if_pos ⟨rfl, rfl⟩]; rfl
  · simp only [List.length_cons] at hj ⊢
    rw [e]
    show up2 (mAJ M) 20 tl.length c 20 j = _
    by_cases z : j = tl.length
    · rw [z, up2_eq, show tl.length + 1 - 1 - tl.length = 0 by omega]; rfl
    · rw [up2_ne (fun y => z y.2), show tl.length + 1 - 1 - j = (tl.length - 1 - j) + 1 by omega]
      exact r3 j (by omega)
  · rw [e, mI_wI, if_neg (by decide)]; exact r4
  · rw [e, mI_wI, if_neg (by decide)]; exact r5
  · rw [e, mI_wI, if_neg (by decide)]; exact r6
  · rw [e, mI_wI, if_neg (by omega)]; exact r7
  · rw [e, mI_wI, if_neg (by omega)]; exact r8
theorem CQ.pop {c : Int64} (h : CQ n0 τ M0 M γ cn ps (c :: tl)) (F : Fix M) (e : M' = wI M 14 3 (mI M 14 3 - 1)) : CQ n0 τ M0 M' γ cn ps tl := by
  have hn := h.nz.1
  obtain ⟨⟨r1, r2, r3⟩, r4, r5, r6, r7, r8⟩ := h.rd
  simp only [List.length_cons] at r1 r2 r3
  refine h.rq (g := γ.2.2.2.2.2.2.1) (u := γ.2.2.2.2.2.2.2) F (by rw [e]; exact fr_wI (S := fun c => c = 14 ∨ c = 20) (Or.inl rfl)) (by rw [e]; rfl) (by rw [e]; rfl) (by rw [e]; rfl) ⟨⟨?_, by omega, fun j hj => ?_⟩, ?_, ?_, ?_, ?_, ?_⟩ rfl
  · rw [e, mI_wI, if_pos ⟨rfl, rfl⟩, r1]
    exact dec32 (by omega)
  · rw [e]
    show mAJ M 20 j = _
    rw [r3 j (by omega), show tl.length + 1 - 1 - j = (tl.length - 1 - j) + 1 by omega]
    rfl
  · rw [e, mI_wI, if_neg (by decide)]; exact r4
  · rw [e, mI_wI, if_neg (by decide)]; exact r5
  · rw [e, mI_wI, if_neg (by decide)]; exact r6
  · rw [e, mI_wI, if_neg (by omega)]; exact r7
  · rw [e, mI_wI, if_neg (by omega)]; exact r8
/-- the module's number of ifs, its depth -/
theorem CQ.w0 {f v : Nat} (h : CQ n0 τ M0 M γ cn ps tl) (hf : f = 14 ∨ f = 15) (e : M' = wI M n0 f (Int32.ofNat v)) (c1 : cn' 1 = cn 1) (c0 : cn' 0 = cn 0) (c2 : cn' 2 = if f = 14 then v else cn 2) (c3 : cn' 3 = if f = 14 then cn 3 else v) : CQ n0 τ M0 M' γ cn' ps tl := by
  obtain ⟨lc, rc, cc, pb, ib, h⟩ := h
  obtain ⟨q1, q2, q3, q4, q5, ol, or, oc, o0, o8, o22, -⟩ := h.lim
  have kf : fr (fun c => c = n0) M M' := by rw [e]; exact fr_wI (S := fun c => c = n0) rfl
  have row : ∀ a, a ≠ n0 → sameRow M M' a := fun a ha => by rw [e]; exact ⟨up2_row ha, rfl, rfl, rfl, rfl, rfl⟩
  obtain ⟨h1, ⟨h2, h2b⟩, ⟨t1, t2, t3, t4, t5⟩, h4, ⟨r1, r2, r3, r4, r5, r6⟩, h6, h7, h8, h9⟩ := h
  obtain ⟨e1, b1, b2, b3, b4, b5, ⟨s1, s2, s3⟩, b6, ⟨u1, u2, u3⟩, b7, b8, b9⟩ := h1
  have hE := kf.1
  have eN : mN M' = mN M := by rw [e]; rfl
  have eS : mS M' = mS M := by rw [e]; rfl
  have eR : mR M' = mR M := by rw [e]; rfl
  have eL : mL M' = mL M := by rw [e]; rfl
  have f0 : ∀ f2, f2 ≠ f → mI M' n0 f2 = mI M n0 f2 := fun f2 z => by rw [e, mI_wI, if_neg (fun y => z y.2)]
  have f1 : mI M' n0 f = Int32.ofNat v := by rw [e, mI_wI, if_pos ⟨rfl, rfl⟩]
  have r14 := row 14 (by omega)
  have r20 := row 20 (by omega)
  have r4' := row 4 (by omega)
  obtain ⟨g1, g2, g3, g4, g5, ⟨a1, a2, a3⟩, g6, ⟨a4, a5, a6⟩, g7, ⟨a7, a8, a9⟩, g8, ⟨a10, a11, a12⟩, g9⟩ := e1
  refine ⟨lc, rc, cc, pb, ib, ⟨⟨ok_E g1 hE, g2, by rw [f0 9 (by omega)]; exact g3, by rw [f0 12 (by omega)]; exact g4, by rw [eR]; exact g5, ⟨ok_E a1 hE, by rw [eL]; exact a2, fun j hj => by rw [e]; exact a3 j hj⟩, by rw [eR]; exact g6, ⟨ok_E a4 hE, by rw [eL]; exact a5, fun j hj => by rw [e]; exact a6 j hj⟩, by rw [eR]; exact g7, ⟨ok_E a7 hE, by rw [eL]; exact a8, fun j hj => by rw [e]; exact a9 j hj⟩, by rw [eR]; exact g8, ⟨ok_E a10 hE, by rw [eL]; exact a11, fun j hj => by rw [e]; exact a12 j hj⟩, by rw [eR]; exact g9⟩, b1.fr hE (row _ (by omega)) (row _ (by omega)) (row _ (by omega)), b2, b3, by rw [eR]; exact b4, by rw [eR]; exact b5, ⟨ok_E s1 hE, by rw [eL]; exact s2, fun j hj => by rw [e]; exact s3 j hj⟩, by rw [eR]; exact b6, ⟨ok_E u1 hE, by rw [eL]; exact u2, fun j hj => by rw [e]; exact u3 j hj⟩, by rw [eR]; exact b7, b8, by rw [eN]; exact b9⟩, ⟨h2.fr hE (row _ (by omega)) (row _ (by omega)), h2b⟩, ⟨by rw [r4'.1]; exact t1, by rw [r4'.1]; exact t2, t3, fun c z1 z2 => by rw [e]; exact t4 c z1 z2, t5⟩, h4.fr kf (fun c z => by rw [z, o0.2]; decide), ⟨by rw [r14.1, r20.2.2.2.2.1]; exact r1, by rw [r14.1, c1]; exact r2, by rw [r14.1]; exact r3, by rw [r14.1]; exact r4, ?_, ?_⟩, h6.tr ⟨kf.more (fun c _ z => by omega), fun f2 z1 z2 => f0 f2 (by omega), by rw [eR], fun f2 _ => by rw [(row (n0 + 8) (by omega)).1], fun f2 _ _ => by rw [eR], fun f2 _ => by rw [(row (n0 + 22) (by omega)).1], fun f2 _ => by rw [eR], by rw [eR]⟩, ⟨by rw [eN]; exact h7.1, by rw [eS, eL]; exact h7.2.1, h7.2.2⟩, by rw [eR]; exact h8, ⟨by rw [c0]; exact h9.1, by rw [c0]; exact h9.2.1, h9.2.2⟩⟩
  · rcases hf with z | z
    · rw [c2, if_pos z, ← z]; exact f1
    · rw [c2, if_neg (by omega), f0 14 (by omega)]; exact r5
  · rcases hf with z | z
    · rw [c3, if_pos z, f0 15 (by omega)]; exact r6
    · rw [c3, if_neg (by omega), ← z]; exact f1
end
end
section
/-! the class reads parts: sums, conditions, ifs, new parts in its state -/
theorem sq_1 {x : Nat} : (x + 1) * (x + 1) = x * x + 2 * x + 1 := by simp only [Nat.add_mul, Nat.mul_add, Nat.mul_one, Nat.one_mul]; omega
section
variable {n0 : Nat} {τ : Td} {M0 M M' : Mem} {γ : ClT} {cn cn' : Nat → Nat} {ps : List Nat} {tl tl' : List Int64} {lc rc cc pb ib lc' rc' cc' pb' ib' : Nat}
theorem CQh.sum {l' : List Int32} (h : CQh n0 τ M0 M γ cn ps tl lc rc cc pb ib) (F : Fix M) (k : SFm n0 M M' cc γ.2.2.2.2.2.1 cc' l') (hP : SumP M' (n0 + 22) cc' l') (hc : cc' = n0 + 23 ∨ n0 + 25 ≤ cc') : CQh n0 τ M0 M' (γ.1, γ.2.1, γ.2.2.1, γ.2.2.2.1, γ.2.2.2.2.1, l', γ.2.2.2.2.2.2.1, mI M' 14 6) cn ps tl lc rc cc' pb ib := by
  obtain ⟨q1, q2, q3, q4, q5, ol, or, oc, o0, o8, o22, -⟩ := h.lim
  obtain ⟨k1, k2, k3, k4, k5, k6, k7, k8, k9, k10, k11⟩ := k
  obtain ⟨h1, ⟨h2, h2b, h2c, h2d⟩, ⟨t1, t2, t3, t4, t5⟩, h4, ⟨r1, r2, r3, r4, r5, r6⟩, h6, h7, h8, h9⟩ := h
  have o14 : mK M 14 = 6 := (ok14 F).2
  have o15 : mK M 15 = 9 := (ok15 F).2
  have row : ∀ c, c < mN M → c ≠ 14 → c ≠ 15 → c ≠ n0 + 22 → c ≠ cc → sameRow M M' c := fun c z z1 z2 z3 z4 => k1.2 c z (by omega)
  have r0 := row n0 (by omega) (by omega) (by omega) (by omega) (by omega)
  have r8 := row (n0 + 8) (by omega) (by omega) (by omega) (by omega) (by omega)
  have r4' := row 4 (by omega) (by omega) (by omega) (by omega) (by omega)
  have r20 := row 20 (by omega) (by omega) (by omega) (by omega) (by omega)
  have el := (k1.1.2.2 _ ol.1).2
  refine ⟨h1.fr k1.1 (fun c z => ?_) k3, ⟨hP, hc, ?_, ?_⟩, ⟨by rw [r4'.1]; exact t1, by rw [r4'.1]; exact t2, t3, fun c z1 z2 => by rw [(row c (by omega) (by omega) (by omega) (by omega) (by omega)).2.2.2.1]; exact t4 c z1 z2, t5⟩, h4.fr k1 (fun c z => ?_), ⟨by rw [k2 3 (by decide), r20.2.2.2.2.1]; exact r1, by rw [k2 4 (by decide)]; exact r2, by rw [k2 5 (by decide)]; exact r3, rfl, by rw [r0.1]; exact r5, by rw [r0.1]; exact r6⟩, h6.tr ⟨k1.more (fun c _ z => by omega), fun f _ _ => by rw [r0.1], r0.2.2.1, fun f _ => by rw [r8.1], fun f _ _ => by rw [r8.2.2.1], k6, k7, k3⟩, ⟨?_, ?_, h7.2.2⟩, by rw [r0.2.2.1, r8.2.2.1]; exact h8, h9⟩
  · rcases z with z | z | z | z | z | z
    · exact row c (by omega) (by omega) (by omega) (by omega) (by omega)
    · exact row c (by omega) (by omega) (by omega) (by omega) (by omega)
    · exact row c (by omega) (by omega) (by omega) (by omega) (by omega)
    · exact row c (by omega) (by omega) (by omega) (by omega) (by omega)
    · rw [z]; exact row lc ol.1 (by omega) (by omega) (by omega) (fun y => h2c y.symm)
    · rw [z]; exact row rc or.1 (by omega) (by omega) (by omega) (fun y => h2d y.symm)
  · have := ol.1; omega
  · have := or.1; omega
  · rcases z with z | z | z | z
    · rw [z, o14]; decide
    · rw [z, o15]; decide
    · rw [z, o22.2]; decide
    · rw [z, oc.2]; decide
  · have := h7.1
    show mN M' ≤ mN M0 + 2 * γ.2.2.1.length + l'.length + 3 * ps.length + 4 * γ.2.2.2.2.1.length
    omega
  · have := h7.2.1
    show mS M' ≤ mS M0 + 4 * mL M' lc + 2 * mL M' cc' + (12 * γ.2.2.2.2.1.length + γ.2.2.2.2.1.length * γ.2.2.2.2.1.length) + (24 * ps.length + ps.length * ps.length)
    rw [el]
    omega
theorem CQh.cond {N' : Nt} {bf' : Nat → Nat} (h : CQh n0 τ M0 M γ cn ps tl lc rc cc pb ib) (F : Fix M) (k : CdF n0 M M' lc rc lc' rc' γ.2.2.1 N') (hC : CB n0 τ.1 τ.2.1 τ.2.2.1 τ.2.2.2.1 M' N' lc' rc' (sgT τ.1.length) bf') : CQh n0 τ M0 M' (γ.1, γ.2.1, N', bf', γ.2.2.2.2) cn ps tl lc' rc' cc pb ib := by
  obtain ⟨q1, q2, q3, q4, q5, ol, or, oc, o0, o8, o22, -⟩ := h.lim
  obtain ⟨k1, k2, k3, k4, k5, k6, k7, k8, k9, k10⟩ := k
  have o16 : ok M (n0 + 16) 21 := h.1.2.2.2.2.2.2.2.2.1.1
  obtain ⟨h1, ⟨h2, h2b, h2c, h2d⟩, ⟨t1, t2, t3, t4, t5⟩, h4, ⟨r1, r2, r3, r4, r5, r6⟩, h6, h7, h8, h9⟩ := h
  have o15 : mK M 15 = 9 := (ok15 F).2
  have row : ∀ c, c < mN M → c ≠ 15 → c ≠ n0 + 8 → c ≠ n0 + 16 → c ≠ lc → c ≠ rc → sameRow M M' c := fun c z z1 z2 z3 z4 z5 => k1.2 c z (by omega)
  have r0 := row n0 (by omega) (by omega) (by omega) (by omega) (by omega) (by omega)
  have r22 := row (n0 + 22) (by omega) (by omega) (by omega) (by omega) (by omega) (by omega)
  have r4' := row 4 (by omega) (by omega) (by omega) (by omega) (by omega) (by omega)
  have r14 := row 14 (by omega) (by omega) (by omega) (by omega) (by omega) (by omega)
  have r20 := row 20 (by omega) (by omega) (by omega) (by omega) (by omega) (by omega)
  have rcc := row cc oc.1 (by omega) (by omega) (by omega) h2c h2d
  have ec := (k1.1.2.2 _ oc.1).2
  refine ⟨hC, ⟨h2.fr k1.1 r22 rcc, h2b, ?_, ?_⟩, ⟨by rw [r4'.1]; exact t1, by rw [r4'.1]; exact t2, t3, fun c z1 z2 => by rw [(row c (by omega) (by omega) (by omega) (by omega) (by omega) (by omega)).2.2.2.1]; exact t4 c z1 z2, t5⟩, h4.fr k1 (fun c z => ?_), ⟨by rw [r14.1, r20.2.2.2.2.1]; exact r1, by rw [r14.1]; exact r2, by rw [r14.1]; exact r3, by rw [r14.1]; exact r4, by rw [r0.1]; exact r5, by rw [r0.1]; exact r6⟩, h6.tr ⟨k1.more (fun c _ z => by omega), fun f _ _ => by rw [r0.1], r0.2.2.1, k3, k4, fun f _ => by rw [r22.1], fun f _ => by rw [r22.2.2.1], r14.2.2.1⟩, ⟨?_, ?_, h7.2.2⟩, by rw [r0.2.2.1, k4 7 (by decide) (by decide)]; exact h8, h9⟩
  · have := oc.1; omega
  · have := oc.1; omega
  · rcases z with z | z | z | z | z
    · rw [z, o15]; decide
    · rw [z, o8.2]; decide
    · rw [z, o16.2]; decide
    · rw [z, ol.2]; decide
    · rw [z, or.2]; decide
  · have := h7.1
    show mN M' ≤ mN M0 + 2 * N'.length + γ.2.2.2.2.2.1.length + 3 * ps.length + 4 * γ.2.2.2.2.1.length
    omega
  · have := h7.2.1
    show mS M' ≤ mS M0 + 4 * mL M' lc' + 2 * mL M' cc + (12 * γ.2.2.2.2.1.length + γ.2.2.2.2.1.length * γ.2.2.2.2.1.length) + (24 * ps.length + ps.length * ps.length)
    rw [ec]
    omega
theorem alp_fr3 {a b ci : Nat} {l : List Nat} {S : Nat → Prop} (hA : ALp M a b ci l) (k : fr S M M') (na : ¬ S a) (nb : ok M b 24 → ¬ S b) : ALp M' a b ci l := by
  obtain ⟨ha, hs, hl, hel, hr, hb⟩ := hA
  have ra := k.2 a ha.1 na
  refine ⟨ok_E ha k.1, by rw [ra.1]; exact hs, hl, fun v hv => (hel v hv).e k.1, by rw [ra.2.2.1]; exact hr, ?_⟩
  rcases hb with q | ⟨ob, hlen, hpos, hmx, hg⟩
  · exact Or.inl q
  · have e := (k.1.2.2 b ob.1).2
    refine Or.inr ⟨ok_E ob k.1, by rw [e]; exact hlen, by rw [e]; exact hpos, by rw [e]; exact hmx, fun i hi => ?_⟩
    rw [(k.2 b ob.1 (nb ob)).2.2.2.2.2]
    exact hg i hi
theorem ali_fr3 {a b : Nat} {xs : List Int32} {S : Nat → Prop} (hA : ALi M a b xs) (k : fr S M M') (na : ¬ S a) (nb : ok M b 24 → ¬ S b) (h0 : ∀ c, c < mN M → S c → mK M c ≠ 0) : ALi M' a b xs := by
  obtain ⟨l, h1, h2, h3⟩ := hA
  exact ⟨l, alp_fr3 h1 k na nb, h2, fun i hi => (h3 i hi).fr k h0⟩
theorem CQh.big (h : CQh n0 τ M0 M γ cn ps tl lc rc cc pb ib) (hN : γ.2.2.1.length ≤ 100000) (hl : γ.2.2.2.2.2.1.length ≤ 100000) : mN M < mBig := by
  obtain ⟨-, -, -, -, -, -, ⟨h7, -, h7b⟩, -, ⟨a1, a2, a3⟩⟩ := h
  unfold mBig
  omega
/-- the literal of an if -/
theorem CQh.aif (h : CQh n0 τ M0 M γ cn ps tl lc rc cc pb ib) (hN : γ.2.2.1.length ≤ 90000) (hl : γ.2.2.2.2.2.1.length ≤ 90000) (hx : γ.2.2.2.2.1.length < 80) (k : AiF M M' (n0 + 8) (n0 + 15) ib lc rc lc' rc' ib' γ.2.2.2.2.1.length) (hC : CirP M' (n0 + 8) lc' rc' (frL γ.2.2.1).1) (hA : ALi M' (n0 + 15) ib' (γ.2.2.2.2.1 ++ [Int32.ofNat (2 * γ.2.2.1.length)])) : CQh n0 τ M0 M' (γ.1, γ.2.1, (frL γ.2.2.1).1, γ.2.2.2.1, γ.2.2.2.2.1 ++ [Int32.ofNat (2 * γ.2.2.1.length)], γ.2.2.2.2.2) cn ps tl lc' rc' cc pb ib' := by
  have big := h.big (by omega) (by omega)
  obtain ⟨q1, q2, q3, q4, q5, ol, or, oc, o0, o8, o22, -⟩ := h.lim
  obtain ⟨h1, ⟨h2, h2b, h2c, h2d⟩, ht, hL, hr, h6, h7, h8, h9⟩ := h
  have o15 : ok M (n0 + 15) 1 := by obtain ⟨l, q, -⟩ := hL.2.1; exact q.1
  have il : ib = mBig + 5 ∨ n0 + 25 ≤ ib := hL.2.2.2.1
  have nlc : ∀ c, c < n0 + 25 → c ≠ n0 + 9 → c ≠ lc := fun c _ _ => by omega
  have nrc : ∀ c, c < n0 + 25 → c ≠ n0 + 10 → c ≠ rc := fun c _ _ => by omega
  have nib : ∀ c, c < n0 + 25 → c ≠ ib := fun c _ => by omega
  have ncc : cc ≠ n0 + 8 ∧ cc ≠ n0 + 15 := by omega
  have lim2 : ∀ c, (c = n0 + 8 ∨ c = lc ∨ c = rc ∨ c = n0 + 15 ∨ (c = ib ∧ mK M c = 24)) → c < mN M → (4 ≤ c ∧ c ≤ 15) ∨ c = 20 ∨ c = n0 ∨ c = n0 + 7 ∨ c = n0 + 8 ∨ c = n0 + 9 ∨ c = n0 + 10 ∨ c = n0 + 15 ∨ c = n0 + 16 ∨ c = n0 + 22 ∨ c = n0 + 23 ∨ n0 + 25 ≤ c := by
    intro c z zl
    rcases z with z | z | z | z | z
    · omega
    · omega
    · omega
    · omega
    · omega
  clear il q3 q4 q5
  have k1 := k.1
  have row : ∀ c, c < mN M → c ≠ n0 + 8 → c ≠ lc → c ≠ rc → c ≠ n0 + 15 → ¬ (mK M c = 24) → sameRow M M' c := fun c z z1 z2 z3 z4 z5 => k1.2 c z (by rintro (y | y | y | y | y) <;> first | exact z1 y | exact z2 y | exact z3 y | exact z4 y | exact z5 y.2)
  have rlo : ∀ c, c < n0 + 25 → c ≠ n0 + 8 → c ≠ n0 + 9 → c ≠ n0 + 10 → c ≠ n0 + 15 → sameRow M M' c := fun c z z1 z2 z3 z4 => k1.2 c (by omega) (by rintro (y | y | y | y | y) <;> first | exact z1 y | exact nlc c z z2 y | exact nrc c z z3 y | exact z4 y | exact nib c z y.1)
  have r0 := rlo n0 (by omega) (by omega) (by omega) (by omega) (by omega)
  have r22 := rlo (n0 + 22) (by omega) (by omega) (by omega) (by omega) (by omega)
  have r4' := rlo 4 (by omega) (by omega) (by omega) (by omega) (by omega)
  have r14 := rlo 14 (by omega) (by omega) (by omega) (by omega) (by omega)
  have r20 := rlo 20 (by omega) (by omega) (by omega) (by omega) (by omega)
  have r16 := rlo (n0 + 16) (by omega) (by omega) (by omega) (by omega) (by omega)
  have rs20 := rlo (n0 + 20) (by omega) (by omega) (by omega) (by omega) (by omega)
  have rcc := row cc oc.1 ncc.1 h2c h2d ncc.2 (by rw [oc.2]; decide)
  have ec := (k1.1.2.2 _ oc.1).2
  have eL : (frL γ.2.2.1).1.length = γ.2.2.1.length + 1 := by simp [frL]
  have hE := k1.1
  have hE1 := hE.1
  obtain ⟨t1, t2, t3, t4, t5⟩ := ht
  obtain ⟨r1, r2, r3, r4, r5, r6⟩ := hr
  obtain ⟨e1, b1, b2, b3, b4, b5, ⟨s1, s2, s3⟩, b6, ⟨u1, u2, u3⟩, b7, b8, b9⟩ := h1
  have s3' : ∀ q, q < 16 → mAI M' (n0 + 20) q = Int32.ofNat (sgT τ.1.length q) ∧ sgT τ.1.length q < 2 * (frL γ.2.2.1).1.length := fun q hq => by
    rw [rs20.2.2.2.1, eL]
    have := s3 q hq
    exact ⟨this.1, by omega⟩
  have u3' : ∀ q, q < 16 → mAI M' (n0 + 16) q = Int32.ofNat (γ.2.2.2.1 q) ∧ γ.2.2.2.1 q < 2 * (frL γ.2.2.1).1.length := fun q hq => by
    rw [r16.2.2.2.1, eL]
    have := u3 q hq
    exact ⟨this.1, by omega⟩
  have cb : CB n0 τ.1 τ.2.1 τ.2.2.1 τ.2.2.2.1 M' (frL γ.2.2.1).1 lc' rc' (sgT τ.1.length) γ.2.2.2.1 := ⟨e1.fr hE (fun a z1 z2 => rlo a (by omega) (by omega) (by omega) (by omega) (by omega)), hC, by have := k.2.2.2.2.2.2.1; omega, by have := k.2.2.2.2.2.2.2.1; omega, by rw [r0.2.2.1]; exact b4, by rw [k.2.2.1 13 (by decide) (by decide)]; exact b5, ⟨ok_E s1 hE, (hE.2.2 _ s1.1).2.trans s2, s3'⟩, by rw [k.2.2.1 8 (by decide) (by decide)]; exact b6, ⟨ok_E u1 hE, (hE.2.2 _ u1.1).2.trans u2, u3'⟩, by rw [r14.2.2.1]; exact b7, b8, Nat.le_trans b9 hE1⟩
  have sp : SumP M' (n0 + 22) cc γ.2.2.2.2.2.1 := h2.fr hE r22 rcc
  have tp : TrP M' γ.2.1 := ⟨by rw [r4'.1]; exact t1, by rw [r4'.1]; exact t2, t3, fun c z1 z2 => by rw [(rlo c (by omega) (by omega) (by omega) (by omega) (by omega)).2.2.2.1]; exact t4 c z1 z2, t5⟩
  have rdq : RdQ n0 M' γ.2.2.2.2.2.2.1 γ.2.2.2.2.2.2.2 cn tl := ⟨by rw [r14.1, r20.2.2.2.2.1]; exact r1, by rw [r14.1]; exact r2, by rw [r14.1]; exact r3, by rw [r14.1]; exact r4, by rw [r0.1]; exact r5, by rw [r0.1]; exact r6⟩
  have frq : FrQ n0 M M' := ⟨k1.more (fun c hc z => lim2 c z hc), fun f _ _ => by rw [r0.1], r0.2.2.1, k.2.1, k.2.2.1, fun f _ => by rw [r22.1], fun f _ => by rw [r22.2.2.1], r14.2.2.1⟩
  have lx : (γ.2.2.2.2.1 ++ [Int32.ofNat (2 * γ.2.2.1.length)]).length = γ.2.2.2.2.1.length + 1 := by rw [List.length_append]; rfl
  have nc1 : cc ≠ lc' := by
    rcases k.2.2.2.2.2.2.1 with z | z
    · rw [z]; exact h2c
    · intro y; have := oc.1; omega
  have nc2 : cc ≠ rc' := by
    rcases k.2.2.2.2.2.2.2.1 with z | z
    · rw [z]; exact h2d
    · intro y; have := oc.1; omega
  have kk : ∀ c q, mK M c = q → (c = n0 + 8 ∨ c = lc ∨ c = rc ∨ c = n0 + 15 ∨ (c = ib ∧ mK M c = 24)) → q = 2 ∨ q = 21 ∨ q = 1 ∨ (c = ib ∧ q = 24) := by
    intro c q e z
    rcases z with z | z | z | z | z
    · rw [z, o8.2] at e; exact Or.inl e.symm
    · rw [z, ol.2] at e; exact Or.inr (Or.inl e.symm)
    · rw [z, or.2] at e; exact Or.inr (Or.inl e.symm)
    · rw [z, o15.2] at e; exact Or.inr (Or.inr (Or.inl e.symm))
    · exact Or.inr (Or.inr (Or.inr ⟨z.1, by rw [← e]; exact z.2⟩))
  obtain ⟨l1, l2, l3, l4, l5, l6⟩ := hL
  have lp : LPt n0 M' ps γ.1 (γ.2.2.2.2.1 ++ [Int32.ofNat (2 * γ.2.2.1.length)]) pb ib' := by
    refine ⟨alp_fr3 l1 k1 ?_ ?_, hA, l3, ?_, ?_, l6.fr k1 ?_⟩
    · rintro (y | y | y | y | y)
      · omega
      · exact nlc _ (by omega) (by omega) y
      · exact nrc _ (by omega) (by omega) y
      · omega
      · exact nib _ (by omega) y.1
    · intro o24 y
      have kb := o24.1
      rcases kk _ _ o24.2 y with w | w | w | w
      · exact absurd w (by decide)
      · exact absurd w (by decide)
      · exact absurd w (by decide)
      · have := l5 w.1
        clear l3 l4
        omega
    · rcases k.2.2.2.2.2.2.2.2 with z | z
      · rw [z]; exact l4
      · right; clear l3 l4; omega
    · intro y
      rcases k.2.2.2.2.2.2.2.2 with z | z
      · exact l5 (y.trans z)
      · obtain ⟨-, -, -, -, -, hb⟩ := l1
        rcases hb with w | w
        · exact w.1
        · have := w.1.1; clear l3 l4; omega
    · intro c y e
      rcases kk _ _ e y with w | w | w | w
      · exact absurd w (by decide)
      · exact absurd w (by decide)
      · exact absurd w (by decide)
      · exact absurd w.2 (by decide)
  clear l3 l4
  refine ⟨cb, ⟨sp, h2b, nc1, nc2⟩, tp, lp, rdq, h6.tr frq, ⟨?_, ?_, h7.2.2⟩, by rw [r0.2.2.1, k.2.2.1 7 (by decide) (by decide)]; exact h8, h9.1, h9.2.1, by rw [lx]; exact hx⟩
  · have z1 := h7.1
    have z2 := k.2.2.2.2.1
    show mN M' ≤ mN M0 + 2 * (frL γ.2.2.1).1.length + γ.2.2.2.2.2.1.length + 3 * ps.length + 4 * (γ.2.2.2.2.1 ++ [Int32.ofNat (2 * γ.2.2.1.length)]).length
    rw [eL, lx]
    clear b2 b3 h2b
    omega
  · have z1 := h7.2.1
    have z2 := k.2.2.2.2.2.1
    show mS M' ≤ mS M0 + 4 * mL M' lc' + 2 * mL M' cc + (12 * (γ.2.2.2.2.1 ++ [Int32.ofNat (2 * γ.2.2.1.length)]).length + (γ.2.2.2.2.1 ++ [Int32.ofNat (2 * γ.2.2.1.length)]).length * (γ.2.2.2.2.1 ++ [Int32.ofNat (2 * γ.2.2.1.length)]).length) + (24 * ps.length + ps.length * ps.length)
    rw [ec, lx, sq_1]
    clear b2 b3 h2b
    omega
end
end
section
/-! the class reads parts: a new part; the state with its tokens -/
section
variable {n0 : Nat} {τ : Td} {M0 M M1 M' : Mem} {γ : ClT} {cn cn' : Nat → Nat} {ps : List Nat} {tl tl' : List Int64} {lc rc cc pb ib lc' rc' cc' pb' ib' : Nat} {W : Nat}
theorem CQh.new {v : Int32} (h : CQh n0 τ M0 M γ cn ps tl lc rc cc pb ib) (hN : γ.2.2.1.length ≤ 90000) (hl : γ.2.2.2.2.2.1.length ≤ 90000) (hc : cn 0 < 40) (e1 : M1 = wI (nwO M 5 13) (mN M) 0 v) (k : ALF M1 M' (n0 + 7) pb pb' ps.length) (hA : ALp M' (n0 + 7) pb' 5 (ps ++ [mN M])) : CQh n0 τ M0 M' (va_up γ.1 ps.length (fun f => if f = 0 then v else 0), γ.2) (va_up cn 0 (ps.length + 1)) (ps ++ [mN M]) tl lc rc cc pb' ib := by
  have big := h.big (by omega) (by omega)
  obtain ⟨q1, q2, q3, q4, q5, ol, or, oc, o0, o8, o22, -⟩ := h.lim
  have nE1 : mN M1 = mN M + 1 := by rw [e1]; rfl
  have sE1 : mS M1 = mS M + 13 := by rw [e1]; rfl
  have k1E : ∀ c, c < mN M → mK M1 c = mK M c := fun c hc => by rw [e1]; exact va_up_ne _ _ (Nat.ne_of_lt hc)
  have f1 : ∀ S : Nat → Prop, fr S M M1 := fun S => by
    rw [e1]
    exact (fr_nwO (S := S)).tr (fr_wI (S := fun c => c = mN M) rfl) (fun a ha z => by omega)
  have k1 := k.1
  have kf : fr (fun c => c = n0 + 7 ∨ (c = pb ∧ mK M c = 24)) M M' := (f1 _).tr k1 (fun a ha z => by rw [k1E a ha] at z; exact z)
  obtain ⟨h1, h2, ⟨t1, t2, t3, t4, t5⟩, ⟨l1, l2, l3, l4, l5, l6⟩, ⟨r1, r2, r3, r4, r5, r6⟩, h6, h7, h8, h9⟩ := id h
  have o7 := l1.1
  have o15 : ok M (n0 + 15) 1 := by obtain ⟨l, q, -⟩ := l2; exact q.1
  have npb : ∀ c, c < n0 + 25 → c ≠ pb := fun c _ => by omega
  have lim2 : ∀ c, c < mN M → (c = n0 + 7 ∨ (c = pb ∧ mK M c = 24)) → (4 ≤ c ∧ c ≤ 15) ∨ c = 20 ∨ c = n0 ∨ c = n0 + 7 ∨ c = n0 + 8 ∨ c = n0 + 9 ∨ c = n0 + 10 ∨ c = n0 + 15 ∨ c = n0 + 16 ∨ c = n0 + 22 ∨ c = n0 + 23 ∨ n0 + 25 ≤ c := by
    intro c zl z
    rcases z with z | z
    · omega
    · omega
  have nl : 132 ≤ lc ∧ 132 ≤ rc ∧ 132 ≤ cc := by omega
  clear q3 q4 q5
  have rlo : ∀ c, c < n0 + 25 → c ≠ n0 + 7 → sameRow M M' c := fun c z z1 => kf.2 c (by omega) (by rintro (y | y) <;> first | exact z1 y | exact npb c z y.1)
  have kk : ∀ c q, mK M c = q → (c = n0 + 7 ∨ (c = pb ∧ mK M c = 24)) → q = 1 ∨ (c = pb ∧ q = 24) := by
    intro c q e z
    rcases z with z | z
    · rw [z, o7.2] at e; exact Or.inl e.symm
    · exact Or.inr ⟨z.1, by rw [← e]; exact z.2⟩
  have r4' := rlo 4 (by omega) (by omega)
  have r14 := rlo 14 (by omega) (by omega)
  have r20 := rlo 20 (by omega) (by omega)
  have r0 := rlo n0 (by omega) (by omega)
  have r8 := rlo (n0 + 8) (by omega) (by omega)
  have r22 := rlo (n0 + 22) (by omega) (by omega)
  have hi : ∀ c q, ok M c q → q ≠ 1 → q ≠ 24 → sameRow M M' c := fun c q z1 z2 z3 => kf.2 c z1.1 (fun y => by
    rcases kk c q z1.2 y with w | w
    · exact z2 w
    · exact z3 w.2)
  have eS := h9.1
  have lps : (ps ++ [mN M]).length = ps.length + 1 := by rw [List.length_append]; rfl
  have c1 := h1.fr kf.1 (fun c z => by
    rcases z with z | z | z | z | z | z
    · exact rlo c (by omega) (by omega)
    · exact rlo c (by omega) (by omega)
    · exact rlo c (by omega) (by omega)
    · exact rlo c (by omega) (by omega)
    · rw [z]; exact hi _ 21 ol (by decide) (by decide)
    · rw [z]; exact hi _ 21 or (by decide) (by decide)) r14.2.2.1
  have el := (kf.1.2.2 _ ol.1).2
  have ec := (kf.1.2.2 _ oc.1).2
  have sp : SumP M' (n0 + 22) cc γ.2.2.2.2.2.1 := h2.1.fr kf.1 r22 (hi _ 21 oc (by decide) (by decide))
  have tp : TrP M' γ.2.1 := ⟨by rw [r4'.1]; exact t1, by rw [r4'.1]; exact t2, t3, fun c z1 z2 => by rw [(rlo c (by omega) (by omega)).2.2.2.1]; exact t4 c z1 z2, t5⟩
  have pt : PtR n0 M' (ps ++ [mN M]) (va_up γ.1 ps.length (fun f => if f = 0 then v else 0)) := by
    refine ⟨fun j hj => ?_, fun i j hi hj => ?_⟩
    · rw [lps] at hj
      rw [getD_apN hj]
      by_cases z : j = ps.length
      · rw [if_pos z, z]
        have oq : ok M1 (mN M) 5 := ⟨by omega, by rw [e1]; exact va_up_self _ _ _⟩
        have rq := k1.2 (mN M) (by omega) (fun y => by
          rcases y with y | y
          · have := o7.1; omega
          · rw [oq.2] at y; exact absurd y.2 (by decide))
        refine ⟨ok_E oq k1.1, by omega, fun f hf => ?_⟩
        rw [rq.1, e1, mI_wI, va_up_self]
        by_cases w : f = 0
        · rw [if_pos ⟨rfl, w⟩, if_pos w]
        · rw [if_neg (fun y => w y.2), if_neg w]
          show va_up (mI M) (mN M) (fun _ => 0) (mN M) f = 0
          rw [va_up_self]
      · rw [if_neg z]
        obtain ⟨a1, a2, a3⟩ := l6.1 j (by omega)
        have rq := hi _ 5 a1 (by decide) (by decide)
        refine ⟨ok_E a1 kf.1, a2, fun f hf => ?_⟩
        rw [rq.1, va_up_ne _ _ z]
        exact a3 f hf
    · rw [lps] at hi hj
      rw [getD_apN hi, getD_apN hj]
      by_cases z : i = ps.length <;> by_cases w : j = ps.length
      · intro _; omega
      · rw [if_pos z, if_neg w]
        intro y
        have := (l6.1 j (by omega)).1.1
        omega
      · rw [if_neg z, if_pos w]
        intro y
        have := (l6.1 i (by omega)).1.1
        omega
      · rw [if_neg z, if_neg w]
        exact l6.2 i j (by omega) (by omega)
  have lp : LPt n0 M' (ps ++ [mN M]) (va_up γ.1 ps.length (fun f => if f = 0 then v else 0)) γ.2.2.2.2.1 pb' ib := by
    refine ⟨hA, ali_fr3 l2 kf (fun y => ?_) (fun o24 y => ?_) (fun c _ y e => ?_), ?_, l4, fun y => ?_, pt⟩
    · rcases y with y | y
      · omega
      · exact npb _ (by omega) y.1
    · have kb := o24.1
      rcases kk _ _ o24.2 y with w | w
      · exact absurd w (by decide)
      · have := l5 w.1.symm
        rw [w.1] at kb
        clear l3 l4
        omega
    · rcases kk _ _ e y with w | w
      · exact absurd w (by decide)
      · exact absurd w.2 (by decide)
    · rcases k.2.2.2.2.1 with z | z
      · rw [z]; exact l3
      · right; clear l3 l4; omega
    · rcases k.2.2.2.2.1 with z | z
      · exact z.trans (l5 (z.symm.trans y))
      · obtain ⟨l, ⟨-, -, -, -, -, hb⟩, -⟩ := l2
        rcases hb with w | w
        · exact y.trans w.1
        · have := w.1.1; clear l3 l4; omega
  clear l3 l4
  refine ⟨c1, ⟨sp, h2.2⟩, tp, lp, ⟨by rw [r14.1, r20.2.2.2.2.1]; exact r1, by rw [r14.1]; exact r2, by rw [r14.1]; exact r3, by rw [r14.1]; exact r4, by rw [r0.1]; exact r5, by rw [r0.1]; exact r6⟩, h6.tr ⟨kf.more lim2, fun f _ _ => by rw [r0.1], r0.2.2.1, fun f _ => by rw [r8.1], fun f _ _ => by rw [r8.2.2.1], fun f _ => by rw [r22.1], fun f _ => by rw [r22.2.2.1], r14.2.2.1⟩, ⟨?_, ?_, h7.2.2⟩, by rw [r0.2.2.1, r8.2.2.1]; exact h8, ?_, ?_, h9.2.2⟩
  · have := h7.1
    have := k.2.2.2.2.2.1
    rw [lps]
    show mN M' ≤ mN M0 + 2 * γ.2.2.1.length + γ.2.2.2.2.2.1.length + 3 * (ps.length + 1) + 4 * γ.2.2.2.2.1.length
    omega
  · have := h7.2.1
    have := k.2.2.2.2.2.2
    rw [lps, el, ec]
    show mS M' ≤ mS M0 + 4 * mL M lc + 2 * mL M cc + (12 * γ.2.2.2.2.1.length + γ.2.2.2.2.1.length * γ.2.2.2.2.1.length) + (24 * (ps.length + 1) + (ps.length + 1) * (ps.length + 1))
    rw [sq_1]
    omega
  · rw [lps]; rfl
  · show ps.length + 1 ≤ 40; omega
end
/-- the state at the i-th token, o opened; and behind a fault (t nodes at least in the tree) -/
def CS (b : Nat → Int32) (n s n0 : Nat) (τ : Td) (M0 M : Mem) (i o : Nat) (γ : ClT) (cn : Nat → Nat) (ps : List Nat) (tl : List Int64) : Prop := TI b n s M i o ∧ CQ n0 τ M0 M γ cn ps tl ∧ γ.2.2.1.length ≤ 18 + i ∧ γ.2.2.2.2.2.1.length ≤ 3 * i ∧ γ.2.2.2.2.1.length ≤ cn 2 ∧ cn 2 ≤ 40
def CX (n0 : Nat) (τ : Td) (M0 : Mem) (W B : Nat) (M : Mem) (f : Int32) (p : Nat) (ps : List Nat) (tl : List Int64) (t : Nat) : Prop := TF M f p ∧ ∃ γ cn, CQ n0 τ M0 M γ cn ps tl ∧ γ.2.2.1.length ≤ W + B ∧ γ.2.2.2.2.2.1.length ≤ 4 * W + B ∧ t ≤ γ.2.1.1 ∧ γ.2.2.2.2.1.length ≤ 45 + B ∧ W ≤ 900
section
variable {b : Nat → Int32} {n s n0 : Nat} {τ : Td} {M0 M M' : Mem} {i o i' o' : Nat} {γ : ClT} {cn cn' : Nat → Nat} {ps : List Nat} {tl : List Int64} {f : Int32} {p t t' B B' : Nat} {W : Nat}
theorem CS.len (h : CS b n s n0 τ M0 M i o γ cn ps tl) : n ≤ 800 ∧ s ≤ n ∧ i ≤ s ∧ ps.length = cn 0 ∧ cn 0 ≤ 40 := ⟨h.1.2.1.1, h.1.2.1.2.1, h.1.2.1.2.2, h.2.1.len.1, h.2.1.len.2.1⟩
theorem CS.x (h : CS b n s n0 τ M0 M i o γ cn ps tl) (k : TFr M M') (hT : TF M' f p) : CX n0 τ M0 (s + 70) B M' f p ps tl γ.2.1.1 := by
  have := h.len
  exact ⟨hT, γ, cn, h.2.1.t h.1.1 k, by have := h.2.2.1; omega, by have := h.2.2.2.1; omega, Nat.le_refl _, by have := h.2.2.2.2; omega, by omega⟩
theorem CS.tok (h : CS b n s n0 τ M0 M i o γ cn ps tl) (k : TFr M M') (hT : TI b n s M' i' o') (hi : i ≤ i') : CS b n s n0 τ M0 M' i' o' γ cn ps tl := ⟨hT, h.2.1.t h.1.1 k, by have := h.2.2.1; omega, by have := h.2.2.2.1; omega, h.2.2.2.2⟩
theorem CX.tok (h : CX n0 τ M0 W B M f p ps tl t) (k : TFr M M') (hT : TF M' f p) : CX n0 τ M0 W B M' f p ps tl t := by
  obtain ⟨h1, γ, cn, h2, h3, h4, h5⟩ := h
  exact ⟨hT, γ, cn, h2.t h1.1 k, h3, h4, h5⟩
theorem CX.mono (h : CX n0 τ M0 W B M f p ps tl t) (k : t' ≤ t) (kB : B ≤ B') : CX n0 τ M0 W B' M f p ps tl t' := by
  obtain ⟨h1, γ, cn, h2, h3, h4, h5⟩ := h
  exact ⟨h1, γ, cn, h2, by omega, by omega, by omega, by omega⟩
theorem TI.tree (h : TI b n s M i o) (k : TrF M M') : TI b n s M' i o := h.fr (k.fix h.1) (k.row (a := 15) (by decide)).1 (k.row (a := 15) (by decide)).2.1 (k.row (a := 16) (by decide)).2.2.2.1 (k.row (a := 17) (by decide)).2.2.2.1 (k.row (a := 18) (by decide)).2.2.2.2.1
theorem TF.tree (h : TF M f p) (k : TrF M M') : TF M' f p := h.fr (k.fix h.1) (k.row (a := 15) (by decide)).1
theorem CS.tree {Θ : TrT} (h : CS b n s n0 τ M0 M i o γ cn ps tl) (k : TrF M M') (hT : TrP M' Θ) : CS b n s n0 τ M0 M' i o (γ.1, Θ, γ.2.2) cn ps tl := ⟨h.1.tree k, h.2.1.tree h.1.1 k hT, h.2.2.1, h.2.2.2⟩
/-- a part's field, behind a fault too -/
theorem CS.pt {j f : Nat} {v : Int32} (h : CS b n s n0 τ M0 M i o γ cn ps tl) (hj : j < ps.length) (e : M' = wI M (ps.getD j 0) f v) : CS b n s n0 τ M0 M' i o (up2 γ.1 j f v, γ.2) cn ps tl := by
  have g := (h.2.1.part hj).2.1
  have hn := h.2.1.nz.1
  exact ⟨TI_hi h.1 (by rw [e]; exact fr_wI (S := fun c => 132 ≤ c) (by omega)), h.2.1.pt hj e, h.2.2.1, h.2.2.2⟩
theorem CX.pt {j q : Nat} {v : Int32} (h : CX n0 τ M0 W B M f p ps tl t) (hj : j < ps.length) (e : M' = wI M (ps.getD j 0) q v) : CX n0 τ M0 W B M' f p ps tl t := by
  obtain ⟨h1, γ, cn, h2, h3, h4, h5⟩ := h
  have g := (h2.part hj).2.1
  have hn := h2.nz.1
  exact ⟨TF_hi h1 (by rw [e]; exact fr_wI (S := fun c => 132 ≤ c) (by omega)), (up2 γ.1 j q v, γ.2), cn, h2.pt hj e, h3, h4, h5⟩
theorem CX.part {j : Nat} (h : CX n0 τ M0 W B M f p ps tl t) (hj : j < ps.length) : ok M (ps.getD j 0) 5 := by
  obtain ⟨h1, γ, cn, h2, h3, h4, h5⟩ := h
  exact (h2.part hj).1
theorem CX.nz (h : CX n0 τ M0 W B M f p ps tl t) : 132 ≤ n0 ∧ n0 + 25 ≤ mN M ∧ ok M n0 3 ∧ ok M (n0 + 8) 2 ∧ ok M (n0 + 22) 8 ∧ mR M 14 7 = some n0 ∧ mR M n0 7 = some (n0 + 8) ∧ mR M n0 6 = some (n0 + 7) ∧ mR M n0 8 = some (n0 + 22) ∧ mR M (n0 + 8) 7 = some (n0 + 15) := by
  obtain ⟨h1, γ, cn, h2, h3, h4, h5⟩ := h
  exact h2.nz
/-- an operation of the tree behind a fault -/
theorem CX.tree {Θ : TrT} (h : CX n0 τ M0 W B M f p ps tl t) (k : TrF M M') (hT : TrP M' Θ) (ht : t' ≤ Θ.1) : CX n0 τ M0 W B M' f p ps tl t' := by
  obtain ⟨h1, γ, cn, h2, h3, h4, h5⟩ := h
  exact ⟨h1.tree k, (γ.1, Θ, γ.2.2), cn, h2.tree h1.1 k hT, h3, h4, ht, h5.2⟩
theorem CX.trp (h : CX n0 τ M0 W B M f p ps tl t) : ∃ Θ : TrT, TrP M Θ ∧ t ≤ Θ.1 := by
  obtain ⟨h1, γ, cn, h2, h3, h4, h5⟩ := h
  exact ⟨γ.2.1, h2.trp, h5.1⟩
end
end
section
/-! the class reads parts: tokens, sums, conditions -/
section
variable {b : Nat → Int32} {n s n0 : Nat} {τ : Td} {M0 M M' : Mem} {i o i' o' : Nat} {γ : ClT} {cn cn' : Nat → Nat} {ps : List Nat} {tl : List Int64} {f c : Int32} {p t t' h B : Nat} {Q : Option Value → Mem → Prop} {W : Nat}
def EdN (b : Nat → Int32) (n s n0 : Nat) (τ : Td) (M0 : Mem) (o : Nat) (γ : ClT) (cn : Nat → Nat) (ps : List Nat) (tl : List Int64) (Q : Mem → Prop) (R : Except (Int32 × Nat) Nat) : Prop := match R with
  | .ok j => ∀ M', CS b n s n0 τ M0 M' j o γ cn ps tl → Q M'
  | .error e => ∀ M', CX n0 τ M0 (s + 70) 0 M' e.1 e.2 ps tl γ.2.1.1 → Q M'
theorem Z_adv (hS : Sto b n s) (hC : CS b n s n0 τ M0 M i o γ cn ps tl) (h1 : tK b n i ≠ 1) (hE : EdN b n s n0 τ M0 o γ cn ps tl (fun M' => Q none M') (adv' b n i)) : E (h + 1) mdX7_advance [.ref 15] M Q := by
  have hs := hS.lt hC.1.2.1.2.2 hC.1.2.2.2.2.2.2.2.2.2 h1
  rcases adv_cases (b := b) (n := n) (i := i) with ⟨k1, e⟩ | ⟨k1, e⟩ <;> rw [e] at hE
  · exact A_adv hC.1 hs (fun z => absurd k1 z) (fun _ M' T k => hE M' (hC.x k T))
  · exact A_adv hC.1 hs (fun _ M' T k => hE M' (hC.tok k T (Nat.le_succ _))) (fun z => absurd z k1)
theorem Z_expect (hS : Sto b n s) (hC : CS b n s n0 τ M0 M i o γ cn ps tl) (c1 : c ≠ 1) (hE : EdN b n s n0 τ M0 o γ cn ps tl (fun M' => Q none M') (ex b n i c)) : E (h + 2) mdX7_expect [.ref 15, .int c] M Q := by
  unfold ex at hE
  refine A_expect hC.1 c1 (fun q k M' T kf => ?_) (fun q k M' T kf => ?_) (fun q M' T kf => ?_) hS.2.2.1
  · rw [if_pos q] at hE
    unfold adv' at hE
    rw [if_neg k] at hE
    exact hE M' (hC.tok kf T (Nat.le_succ _))
  · rw [if_pos q] at hE
    unfold adv' at hE
    rw [if_pos k] at hE
    exact hE M' (hC.x kf T)
  · rw [if_neg q] at hE
    exact hE M' (hC.x kf T)
theorem Z_accept (hS : Sto b n s) (hC : CS b n s n0 τ M0 M i o γ cn ps tl) (c1 : c ≠ 1) (hE : tK b n i = c → EdN b n s n0 τ M0 o γ cn ps tl (fun M' => Q (some (.int 1)) M') (adv' b n i)) (H0 : tK b n i ≠ c → Q (some (.int 0)) M) : E (h + 2) mdX7_accept [.ref 15, .int c] M Q := by
  refine A_accept hC.1 hS c1 (fun q k M' T kf => ?_) (fun q k M' T kf => ?_) H0
  · have hE := hE q
    unfold adv' at hE
    rw [if_neg k] at hE
    exact hE M' (hC.tok kf T (Nat.le_succ _))
  · have hE := hE q
    unfold adv' at hE
    rw [if_pos k] at hE
    exact hE M' (hC.x kf T)
theorem Z_fail (hC : CS b n s n0 τ M0 M i o γ cn ps tl) (hc : c ≠ 0) (H : ∀ M', CX n0 τ M0 (s + 70) 0 M' c (tP b n i) ps tl γ.2.1.1 → Q none M') : E (h + 1) mdX7_fail [.ref 15, .int c] M Q := A_fail hC.1 hc (fun M' T k => H M' (hC.x k T))
theorem V_expect (hC : CX n0 τ M0 W B M f p ps tl t) (hc : c ≠ 0) (H : Q none M) : E (h + 2) mdX7_expect [.ref 15, .int c] M Q := F_expect hC.1 hc H
theorem V_accept (hC : CX n0 τ M0 W B M f p ps tl t) (hc : c ≠ 0) (H : Q (some (.int 0)) M) : E (h + 2) mdX7_accept [.ref 15, .int c] M Q := F_accept hC.1 hc H
theorem V_adv (hC : CX n0 τ M0 W B M f p ps tl t) (H : Q none M) : E (h + 1) mdX7_advance [.ref 15] M Q := F_adv hC.1 H
theorem V_fail (hC : CX n0 τ M0 W B M f p ps tl t) (H : Q none M) : E (h + 1) mdX7_fail [.ref 15, .int c] M Q := F_fail hC.1 H
theorem V_closes (hC : CX n0 τ M0 W B M f p ps tl t) (H : ∀ M', CX n0 τ M0 W B M' f p ps tl t → Q none M') : E (h + 1) mdX7_closes [.ref 15] M Q := F_closes hC.1 (fun M' T k => H M' (hC.tok k T))
theorem V_opens (hC : CX n0 τ M0 W B M f p ps tl t) (H : ∀ M', CX n0 τ M0 W B M' f p ps tl t → Q none M') : E (h + 2) mdX7_opens [.ref 15] M Q := F_opens hC.1 (fun M' T k => H M' (hC.tok k T))
theorem Z_closes (hC : CS b n s n0 τ M0 M i (o + 1) γ cn ps tl) (ho : o ≤ 20) (H : ∀ M', CS b n s n0 τ M0 M' i o γ cn ps tl → Q none M') : E (h + 1) mdX7_closes [.ref 15] M Q := A_closes hC.1 ho (fun M' T k => H M' (hC.tok k T (Nat.le_refl _)))
theorem Z_opens (hC : CS b n s n0 τ M0 M i o γ cn ps tl) (ho : o ≤ 15) (H1 : o < 15 → ∀ M', CS b n s n0 τ M0 M' i (o + 1) γ cn ps tl → Q none M') (H0 : o = 15 → ∀ M', CX n0 τ M0 (s + 70) 0 M' 6 (tP b n i) ps tl γ.2.1.1 → Q none M') : E (h + 2) mdX7_opens [.ref 15] M Q := A_opens hC.1 ho (fun q M' T k => H1 q M' (hC.tok k T (Nat.le_refl _))) (fun q M' T k => H0 q M' (hC.x k T))
/-- γ with other codes of sums and other variables used -/
def suG (γ : ClT) (l : List Int32) (u : Int32) : ClT := (γ.1, γ.2.1, γ.2.2.1, γ.2.2.2.1, γ.2.2.2.2.1, l, γ.2.2.2.2.2.2.1, u)
def EdS (b : Nat → Int32) (n s n0 : Nat) (τ : Td) (M0 : Mem) (o : Nat) (X : List Nd) (γ : ClT) (cn : Nat → Nat) (ps : List Nat) (tl : List Int64) (Q : Mem → Prop) (R : Except (Int32 × Nat) (Nat × List Nd × Int32)) : Prop := match R with
  | .ok r => ∀ M', CS b n s n0 τ M0 M' r.1 o (suG γ (γ.2.2.2.2.2.1 ++ cdL (r.2.1.drop X.length)) r.2.2) cn ps tl → (γ.2.2.2.2.2.1 ++ cdL (r.2.1.drop X.length)).length + 1 ≤ 3 * r.1 → Q M'
  | .error e => ∀ M', CX n0 τ M0 (s + 70) 0 M' e.1 e.2 ps tl γ.2.1.1 → Q M'
theorem CQh.ri (hC : CS b n s n0 τ M0 M i o γ cn ps tl) {lc rc cc pb ib : Nat} (hQ : CQh n0 τ M0 M γ cn ps tl lc rc cc pb ib) : RI b n s n0 τ.1 τ.2.1 τ.2.2.1 τ.2.2.2.1 M i o γ.2.2.2.2.2.2.2 γ.2.2.2.2.2.1 cc := ⟨hC.1, hQ.1.1, hQ.2.1.1, hQ.2.1.2.1, hQ.2.2.2.2.1.2.2.2.1, hQ.1.2.2.2.2.2.2.2.2.2.1, hQ.lim.1, hQ.lim.2.1⟩
/-- a sum -/
theorem Z_sum {X : List Nd} {H : Nat} (hB : By b) (hS : Sto b n s) (hC : CS b n s n0 τ M0 M i o γ cn ps tl) (ho : o ≤ 15) (hH : 72 ≤ H) (hE : EdS b n s n0 τ M0 o X γ cn ps tl (fun M' => Q none M') (rd b n τ.1 τ.2.2.1 τ.2.2.2.1 6000 3 i o X γ.2.2.2.2.2.2.2)) : E H mdX4_readSum [.ref 14] M Q := by
  obtain ⟨lc, rr, cc, pb, ib, hQ⟩ := id hC.2.1
  have L := hC.len
  have l2 := hC.2.2.2.1
  have F := hC.1.1
  have hok := rd_ok (sN := τ.1) (mx := τ.2.2.1) (vN := τ.2.2.2.1) hS 6000 3 i o X γ.2.2.2.2.2.2.2 (by decide) L.2.2.1 hC.1.2.2.2.2.2.2.2.2.2
  refine (C_rd hB hS 6000).2.2.2.1 M i o X _ _ cc H Q (by omega) (by omega) ho (by omega) (hQ.ri hC) ?_
  cases e : rd b n τ.1 τ.2.2.1 τ.2.2.2.1 6000 3 i o X γ.2.2.2.2.2.2.2 with
  | error y =>
    rw [e] at hE
    intro M' cc' l' R' hl' k
    refine hE M' ⟨R'.1, _, cn, ⟨lc, rr, cc', pb, ib, hQ.sum F k R'.2.2.1 R'.2.2.2.1⟩, ?_, ?_, Nat.le_refl _, by have := hC.2.2.2.2; show γ.2.2.2.2.1.length ≤ _; omega, by omega⟩
    · have := hC.2.2.1; show γ.2.2.1.length ≤ s + 70 + 0; omega
    · show l'.length ≤ 4 * (s + 70) + 0; omega
  | ok r =>
    rw [e] at hE hok
    obtain ⟨k1, k2, k3, ⟨Z, hZ, hZl⟩, k5⟩ := hok
    have k5 := (k5 (Or.inr (Or.inr rfl))).1
    intro M' cc' R' k
    have e6 : mI M' 14 6 = r.2.2 := R'.2.2.2.2.1
    have lZ : (cdL (r.2.1.drop X.length)).length ≤ 2 * (r.1 - i) := by
      rw [hZ, List.drop_left]
      have := cdL_len (X := Z)
      omega
    have hl' : (γ.2.2.2.2.2.1 ++ cdL (r.2.1.drop X.length)).length + 1 ≤ 3 * r.1 := by rw [List.length_append]; omega
    have q := hQ.sum F k R'.2.2.1 R'.2.2.2.1
    rw [e6] at q
    exact hE M' ⟨R'.1, ⟨lc, rr, cc', pb, ib, q⟩, by have := hC.2.2.1; show γ.2.2.1.length ≤ 18 + r.1; omega, by show (γ.2.2.2.2.2.1 ++ cdL (r.2.1.drop X.length)).length ≤ 3 * r.1; omega, hC.2.2.2.2⟩ hl'
/-- the stop behind a sum -/
theorem Z_stop (hC : CS b n s n0 τ M0 M i o γ cn ps tl) (hl : γ.2.2.2.2.2.1.length + 1 ≤ 3 * i) (H : ∀ M', CS b n s n0 τ M0 M' i o (suG γ (γ.2.2.2.2.2.1 ++ [0]) γ.2.2.2.2.2.2.2) cn ps tl → Q none M') : E (h + 3) mdX6_add [.ref (n0 + 22), .int 0] M Q := by
  obtain ⟨lc, rr, cc, pb, ib, hQ⟩ := id hC.2.1
  have L := hC.len
  have F := hC.1.1
  refine A_add (hQ.ri hC) (by omega) (fun M' cc' R' k => ?_)
  have e6 : mI M' 14 6 = γ.2.2.2.2.2.2.2 := R'.2.2.2.2.1
  have q := hQ.sum F k R'.2.2.1 R'.2.2.2.1
  rw [e6] at q
  exact H M' ⟨R'.1, ⟨lc, rr, cc', pb, ib, q⟩, hC.2.2.1, by show (γ.2.2.2.2.2.1 ++ [0]).length ≤ 3 * i; rw [List.length_append]; exact hl, hC.2.2.2.2⟩
theorem V_sum {H : Nat} (hC : CX n0 τ M0 W B M f p ps tl t) (hH : 4 ≤ H) (hQ : Q none M) : E H mdX4_readSum [.ref 14] M Q := by
  obtain ⟨h1, γ, cn, ⟨lc, rr, cc, pb, ib, hq⟩, h3, h4, h5⟩ := hC
  obtain ⟨H, rfl⟩ : ∃ H', H = H' + 4 := ⟨H - 4, by omega⟩
  exact X_sum (n0 := n0) (sN := τ.1) (ro := τ.2.1) (mx := τ.2.2.1) (vN := τ.2.2.2.1) (l := γ.2.2.2.2.2.1) (cc := cc) (f := f) (p := p) ⟨h1, hq.1.1, hq.2.1.1, hq.2.1.2.1, hq.1.2.2.2.2.2.2.2.2.2.1, hq.lim.1, hq.lim.2.1⟩ hQ
/-- the stop, behind a fault -/
theorem V_stop (hC : CX n0 τ M0 W B M f p ps tl t) (hL : B ≤ 10000) (H : ∀ M', CX n0 τ M0 W (B + 1) M' f p ps tl t → Q none M') : E (h + 3) mdX6_add [.ref (n0 + 22), .int 0] M Q := by
  obtain ⟨h1, γ, cn, ⟨lc, rr, cc, pb, ib, hq⟩, h3, h4, h5⟩ := hC
  refine X_add (n0 := n0) (sN := τ.1) (ro := τ.2.1) (mx := τ.2.2.1) (vN := τ.2.2.2.1) (l := γ.2.2.2.2.2.1) (cc := cc) (f := f) (p := p) ⟨h1, hq.1.1, hq.2.1.1, hq.2.1.2.1, hq.1.2.2.2.2.2.2.2.2.2.1, hq.lim.1, hq.lim.2.1⟩ (by omega) (fun M' cc' R' k => ?_)
  refine H M' ⟨R'.1, _, cn, ⟨lc, rr, cc', pb, ib, hq.sum h1.1 k R'.2.2.1 R'.2.2.2.1⟩, by show γ.2.2.1.length ≤ _; omega, ?_, h5.1, by have := h5.2.1; show γ.2.2.2.2.1.length ≤ _; omega, h5.2.2⟩
  show (γ.2.2.2.2.2.1 ++ [0]).length ≤ 4 * W + (B + 1)
  rw [List.length_append]
  exact Nat.add_le_add_right h4 1
end
end
section
/-! the class reads parts: conditions, the literals of ifs -/
section
variable {b : Nat → Int32} {n s n0 : Nat} {τ : Td} {M0 M M' : Mem} {i o i' o' : Nat} {γ : ClT} {cn cn' : Nat → Nat} {ps : List Nat} {tl : List Int64} {f c : Int32} {p t t' h B : Nat} {Q : Option Value → Mem → Prop} {W : Nat}
def coG (γ : ClT) (C : LsT) : ClT := (γ.1, γ.2.1, C.1, C.2.1, γ.2.2.2.2)
def coC (τ : Td) (γ : ClT) (Y Z : List Cd) : LsT := cyL (sgT τ.1.length) (γ.2.2.1, γ.2.2.2.1, List.replicate Y.length 0) (Z.drop Y.length)
def EdC (b : Nat → Int32) (n s n0 : Nat) (τ : Td) (M0 : Mem) (o : Nat) (Y : List Cd) (γ : ClT) (cn : Nat → Nat) (ps : List Nat) (tl : List Int64) (Q : Int32 → Mem → Prop) (R : Except (Int32 × Nat) (Nat × List Cd)) : Prop := match R with
  | .ok r => ∀ M', CS b n s n0 τ M0 M' r.1 o (coG γ (coC τ γ Y r.2)) cn ps tl → Q (Int32.ofNat ((coC τ γ Y r.2).2.2.getD (r.2.length - 1) 0)) M'
  | .error e => ∀ M' v, CX n0 τ M0 (s + 70) 0 M' e.1 e.2 ps tl γ.2.1.1 → Q v M'
theorem Z_cond {Y : List Cd} {H : Nat} (hB : By b) (hS : Sto b n s) (hC : CS b n s n0 τ M0 M i o γ cn ps tl) (ho : o ≤ 15) (hH : 60 ≤ H) (hE : EdC b n s n0 τ M0 o Y γ cn ps tl (fun v M' => Q (some (.int v)) M') (rc b n τ.1 6000 3 i o Y)) : E H mdX4_readCondition [.ref 14] M Q := by
  obtain ⟨lc, rr, cc, pb, ib, hQ⟩ := id hC.2.1
  have L := hC.len
  have l1 := hC.2.2.1
  have F := hC.1.1
  have n1 := hQ.1.n1
  have hok := rc_ok (sN := τ.1) hS 6000 3 i o Y (by decide) L.2.2.1 hC.1.2.2.2.2.2.2.2.2.2
  refine (C_rc hB hS 6000).2.2.2.1 M i o Y (γ.2.2.1, γ.2.2.2.1, List.replicate Y.length 0) lc rr H Q (by omega) (by omega) ho (by show γ.2.2.1.length + (s + 1 - i) ≤ 50000; omega) hC.1 hQ.1 (List.length_replicate) (fun x hx => by rw [List.eq_of_mem_replicate hx]; show 0 < 2 * γ.2.2.1.length; omega) ?_
  cases e : rc b n τ.1 6000 3 i o Y with
  | error y =>
    rw [e] at hE
    intro M' lc' rc' N' bf' v T' C' k hN' _
    have hN' : N'.length ≤ γ.2.2.1.length + (s + 1 - i) := hN'
    refine hE M' _ ⟨T', _, cn, ⟨lc', rc', cc, pb, ib, hQ.cond F k C'⟩, ?_, ?_, Nat.le_refl _, ?_, by omega⟩
    · show N'.length ≤ s + 70 + 0; omega
    · have := hC.2.2.2.1; show γ.2.2.2.2.2.1.length ≤ 4 * (s + 70) + 0; omega
    · have := hC.2.2.2.2; show γ.2.2.2.2.1.length ≤ 45 + 0; omega
  | ok r =>
    rw [e] at hE hok
    obtain ⟨k1, k2, k3, ⟨Z, hZ, hZl⟩, -⟩ := hok
    intro M' lc' rc' T' C' _ k
    have lZ := (cyL_len (sg := sgT τ.1.length) (r.2.drop Y.length) (γ.2.2.1, γ.2.2.2.1, List.replicate Y.length 0)).2.1
    have dZ : (r.2.drop Y.length).length = Z.length := by rw [hZ, List.drop_left]
    refine hE M' ⟨T', ⟨lc', rc', cc, pb, ib, hQ.cond F k C'⟩, ?_, ?_, hC.2.2.2.2⟩
    · show (cyL (sgT τ.1.length) (γ.2.2.1, γ.2.2.2.1, List.replicate Y.length 0) (r.2.drop Y.length)).1.length ≤ 18 + r.1
      have lZ : (cyL (sgT τ.1.length) (γ.2.2.1, γ.2.2.2.1, List.replicate Y.length 0) (r.2.drop Y.length)).1.length ≤ γ.2.2.1.length + (r.2.drop Y.length).length := lZ
      omega
    · have := hC.2.2.2.1; show γ.2.2.2.2.2.1.length ≤ 3 * r.1; omega
theorem V_cond {H : Nat} (hC : CX n0 τ M0 W B M f p ps tl t) (hH : 5 ≤ H) (hQ : Q (some (.int 0)) M) : E H mdX4_readCondition [.ref 14] M Q := by
  obtain ⟨H, rfl⟩ : ∃ H', H = H' + 5 := ⟨H - 5, by omega⟩
  exact X_cond hC.1 hQ
/-- the cells that an if's literal changes -/
theorem AiF.hi {lc rc cc pb ib lc' rc' ib' q : Nat} (hQ : CQh n0 τ M0 M γ cn ps tl lc rc cc pb ib) (k : AiF M M' (n0 + 8) (n0 + 15) ib lc rc lc' rc' ib' q) : fr (fun c => 132 ≤ c) M M' := by
  obtain ⟨q1, q2, q3, q4, -⟩ := hQ.lim
  have l4 := hQ.2.2.2.1.2.2.2.1
  refine k.1.more (fun a _ z => ?_)
  have big : 132 ≤ mBig + 5 := by unfold mBig; omega
  rcases z with z | z | z | z | z
  · omega
  · omega
  · omega
  · omega
  · rcases l4 with y | y
    · rw [z.1, y]; exact big
    · omega
theorem Z_if (hC : CS b n s n0 τ M0 M i o γ cn ps tl) (hx : γ.2.2.2.2.1.length < cn 2) (hN : γ.2.2.1.length + 1 ≤ 18 + i) (H : ∀ M', CS b n s n0 τ M0 M' i o (γ.1, γ.2.1, (frL γ.2.2.1).1, γ.2.2.2.1, γ.2.2.2.2.1 ++ [Int32.ofNat (2 * γ.2.2.1.length)], γ.2.2.2.2.2) cn ps tl → Q (some (.int (Int32.ofNat (2 * γ.2.2.1.length)))) M') : E (h + 7) mdX0_addIf [.ref (n0 + 8)] M Q := by
  obtain ⟨lc, rr, cc, pb, ib, hQ⟩ := id hC.2.1
  have L := hC.len
  have l2 := hC.2.2.2.1
  have l3 := hC.2.2.2.2
  refine S_addIf hQ.1.2.1 (by omega) hC.2.1.nz.2.2.2.2.2.2.2.2.2 hQ.2.2.2.1.2.1 (by omega) (fun M' lc' rc' ib' C' A' k => ?_)
  refine H M' ⟨TI_hi hC.1 (AiF.hi hQ k), ⟨lc', rc', cc, pb, ib', hQ.aif (by omega) (by omega) (by omega) k C' A'⟩, ?_, l2, ?_, l3.2⟩
  · show (frL γ.2.2.1).1.length ≤ 18 + i
    rw [show (frL γ.2.2.1).1.length = γ.2.2.1.length + 1 by simp [frL]]
    exact hN
  · show (γ.2.2.2.2.1 ++ [Int32.ofNat (2 * γ.2.2.1.length)]).length ≤ cn 2
    rw [List.length_append]
    exact hx
theorem V_if (hC : CX n0 τ M0 W B M f p ps tl t) (hB : B ≤ 20) (H : ∀ M' v, CX n0 τ M0 W (B + 1) M' f p ps tl t → Q (some (.int v)) M') : E (h + 7) mdX0_addIf [.ref (n0 + 8)] M Q := by
  have n8 := hC.nz.2.2.2.2.2.2.2.2.2
  obtain ⟨h1, γ, cn, ⟨lc, rr, cc, pb, ib, hQ⟩, h3, h4, h5, h6⟩ := hC
  refine S_addIf hQ.1.2.1 (by omega) n8 hQ.2.2.2.1.2.1 (by omega) (fun M' lc' rc' ib' C' A' k => ?_)
  refine H M' _ ⟨TF_hi h1 (AiF.hi hQ k), _, cn, ⟨lc', rc', cc, pb, ib', hQ.aif (by omega) (by omega) (by omega) k C' A'⟩, ?_, by show γ.2.2.2.2.2.1.length ≤ _; omega, h5, ?_, h6.2⟩
  · show (frL γ.2.2.1).1.length ≤ _
    rw [show (frL γ.2.2.1).1.length = γ.2.2.1.length + 1 by simp [frL]]
    omega
  · show (γ.2.2.2.2.1 ++ [Int32.ofNat (2 * γ.2.2.1.length)]).length ≤ _
    rw [List.length_append]
    show γ.2.2.2.2.1.length + 1 ≤ _
    omega
end
end
section
/-! the class reads parts: emit and sustain -/
/-- the ends of reading a part (or rows): its node comes -/
def EdP (b : Nat → Int32) (n s n0 : Nat) (τ : Td) (M0 : Mem) (o : Nat) (ps : List Nat) (tl : List Int64) (t0 : Nat) (Q : Int32 → Mem → Prop) (R : Except (Int32 × Nat) (Nat × PS × Nat)) : Prop := match R with
  | .ok r => ∀ M' ps', CS b n s n0 τ M0 M' r.1 o r.2.1.2.1 r.2.1.1.1 ps' tl → (∃ e, ps' = ps ++ e) → Q (Int32.ofNat r.2.2) M'
  | .error e => ∀ M' ps' v t, CX n0 τ M0 (s + 70) 10 M' e.1 e.2 ps' tl t → (∃ e, ps' = ps ++ e) → v < t → t0 ≤ t → Q (Int32.ofNat v) M'
section
variable {b : Nat → Int32} {n s n0 m : Nat} {τ : Td} {M0 M M' : Mem} {i o i' o' j : Nat} {γ : ClT} {σ : PS} {K : List KE} {cn cn' : Nat → Nat} {ps : List Nat} {tl : List Int64} {f c : Int32} {p t t' h B : Nat} {Q : Option Value → Mem → Prop} {W : Nat}
theorem A_failAt {c w : Int32} (hT : TI b n s M i o) (hc : c ≠ 0) (hw : w = Int32.ofNat p) (H : ∀ M', TF M' c p → TFr M M' → Q none M') : E (h + 2) mdX7_failAt [.ref 15, .int c, .int w] M Q := by
  have F := hT.1
  refine S_failAt F (H _ ?_ (TFr.i.tr TFr.fail))
  have f12 : mI M 15 12 = 0 := hT.2.2.2.2.2.2.2.2.1
  have c0 := hT.c0
  unfold failF
  have f12' : mI (wI M 15 10 w) 15 12 = 0 := by rw [mI_wI, if_neg (by decide)]; exact f12
  rw [if_pos f12']
  refine ⟨F.i.i.i.i, ?_, ?_, hc, ?_, ?_⟩
  · rw [mI_wI, if_neg (by decide), mI_wI, if_neg (by decide), mI_wI, if_neg (by decide), mI_wI, if_neg (by decide)]; exact c0
  · rw [mI_wI, if_neg (by decide), mI_wI, if_neg (by decide), mI_wI, if_pos ⟨rfl, rfl⟩]
  · rw [mI_wI, if_neg (by decide), mI_wI, if_pos ⟨rfl, rfl⟩, mI_wI, if_pos ⟨rfl, rfl⟩]; exact hw
  · rw [mI_wI, if_pos ⟨rfl, rfl⟩]
theorem CS.t1 (hC : CS b n s n0 τ M0 M i o γ cn ps tl) : 1 ≤ γ.2.1.1 := hC.2.1.trp.2.2.1.1
theorem Z_emitted (hB : By b) (hC : CS b n s n0 τ M0 M i o γ cn ps tl) (H1 : tK b n i = 2 → ∀ k, fd τ.1 (tC b n i) = some k → k < τ.1.length → τ.2.1.getD k 0 ≠ 30 → Q (some (.int (Int32.ofNat k))) M) (H0 : tK b n i = 2 → (fd τ.1 (tC b n i) = none ∨ ∃ k, fd τ.1 (tC b n i) = some k ∧ τ.2.1.getD k 0 = 30) → ∀ M', CX n0 τ M0 (s + 70) 0 M' 4 (tP b n i) ps tl γ.2.1.1 → Q (some (.int (-1))) M') (H2 : tK b n i ≠ 2 → ∀ M', CX n0 τ M0 (s + 70) 0 M' 2 (tP b n i) ps tl γ.2.1.1 → Q (some (.int (-1))) M') : E (h + 3) mdX4_emittedSignal [.ref 14] M Q := by
  have F := hC.1.1
  have hV := hC.2.1.env
  have h7 := hC.2.1.nz.2.2.2.2.2.1
  refine KX4_emittedSignal ?_
  unfold DX4_emittedSignal_0 DX4_emittedSignal_34
  refine ⟨ok14 F, A_told hC.1 hV h7 hB (fun hk k e hl _ => ⟨_, rfl, fun hc => ?_, fun _ => ?_⟩) (fun hk e M' T k _ => ⟨_, rfl, fun _ => H0 hk (Or.inl e) M' (hC.x k T), fun hc => absurd rfl hc⟩) (fun hk M' T k _ => ⟨_, rfl, fun _ => H2 hk M' (hC.x k T), fun hc => absurd rfl hc⟩)⟩
  · exact absurd hc (oi_ne (by have := hV.2.1.1; omega))
  · obtain ⟨-, hlen, -, -, -, -, h27, ⟨c1, c2, c3⟩, -⟩ := id hV
    refine ⟨n0, h7, hV.1, n0 + 2, h27, c1, by rw [c2]; exact vp_of (by omega) (by decide), ?_, ?_⟩
    · rw [lt32 (by omega), c3 k hl]
      exact fun hm => H1 hk k e hl hm
    · rw [lt32 (by omega), c3 k hl]
      exact fun hm => ⟨15, rf14_0 F, ok15 F, Z_fail hC (by decide) (fun M' X' _ => ⟨rfl, H0 hk (Or.inr ⟨k, e, hm⟩) M' X'⟩)⟩
/-- a sum in brackets -/
theorem Z_brk {X : List Nd} {H : Nat} (hB : By b) (hS : Sto b n s) (hC : CS b n s n0 τ M0 M i o γ cn ps tl) (ho : o ≤ 15) (h15 : tK b n i = 15) (hH : 73 ≤ H) (hE : EdS b n s n0 τ M0 o X γ cn ps tl (fun M' => Q none M') (if o = 15 then .error (6, tP b n i) else (adv' b n i).bind fun i3 => (rd b n τ.1 τ.2.2.1 τ.2.2.2.1 6000 3 i3 (o + 1) X γ.2.2.2.2.2.2.2).bind fun r => (ex b n r.1 16).bind fun i4 => .ok (i4, r.2))) : E H mdX4_readInBrackets [.ref 14] M Q := by
  obtain ⟨H, rfl⟩ : ∃ H', H = H' + 73 := ⟨H - 73, by omega⟩
  have F := hC.1.1
  have vx : ∀ M2 f p, CX n0 τ M0 (s + 70) 0 M2 f p ps tl γ.2.1.1 → (∀ M', CX n0 τ M0 (s + 70) 0 M' f p ps tl γ.2.1.1 → Q none M') → DX4_readInBrackets_28 (H + 72) 14 M2 Q := by
    intro M2 f p X2 hq
    have F2 := X2.1.1
    unfold DX4_readInBrackets_28
    exact ⟨ok14 F2, 15, rf14_0 F2, ok15 F2, V_expect X2 (by decide) (fun _ => ⟨rfl, 15, rf14_0 F2, ok15 F2, V_closes X2 (fun M' X' _ => ⟨rfl, hq M' X'⟩)⟩)⟩
  refine KX4_readInBrackets ?_
  unfold DX4_readInBrackets_0
  refine ⟨ok14 F, 15, rf14_0 F, ok15 F, Z_opens hC ho (fun hlt M2 C2 _ => ⟨rfl, ?_⟩) (fun h5 M2 X2 _ => ⟨rfl, ?_⟩)⟩
  · rw [if_neg (by omega)] at hE
    have F2 := C2.1.1
    refine ⟨15, rf14_0 F2, ok15 F2, Z_adv hS C2 (by rw [h15]; decide) ?_⟩
    cases ea : adv' b n i with
    | error y =>
      rw [ea] at hE
      intro M3 X3 _
      have F3 := X3.1.1
      exact ⟨rfl, 15, rf14_0 F3, ok15 F3, fun _ => vx M3 _ _ X3 (fun M' X' => hE M' X'), fun z => absurd z (by rw [X3.1.2.2.1]; exact X3.1.2.2.2.1)⟩
    | ok i3 =>
      rw [ea] at hE
      intro M3 C3 _
      have F3 := C3.1.1
      refine ⟨rfl, 15, rf14_0 F3, ok15 F3, fun z => absurd C3.1.2.2.2.2.2.2.2.2.1 z, fun _ => Z_sum (X := X) hB hS C3 (by omega) (by omega) ?_⟩
      cases er : rd b n τ.1 τ.2.2.1 τ.2.2.2.1 6000 3 i3 (o + 1) X γ.2.2.2.2.2.2.2 with
      | error y =>
        have hE : EdS b n s n0 τ M0 o X γ cn ps tl (fun M' => Q none M') ((rd b n τ.1 τ.2.2.1 τ.2.2.2.1 6000 3 i3 (o + 1) X γ.2.2.2.2.2.2.2).bind fun r => (ex b n r.1 16).bind fun i4 => .ok (i4, r.2)) := hE
        rw [er] at hE
        exact fun M4 X4 _ => ⟨rfl, vx M4 _ _ X4 (fun M' X' => hE M' X')⟩
      | ok r =>
        have hE : EdS b n s n0 τ M0 o X γ cn ps tl (fun M' => Q none M') ((rd b n τ.1 τ.2.2.1 τ.2.2.2.1 6000 3 i3 (o + 1) X γ.2.2.2.2.2.2.2).bind fun r => (ex b n r.1 16).bind fun i4 => .ok (i4, r.2)) := hE
        rw [er] at hE
        intro M4 C4 l4 _
        have F4 := C4.1.1
        refine ⟨rfl, ?_⟩
        unfold DX4_readInBrackets_28
        refine ⟨ok14 F4, 15, rf14_0 F4, ok15 F4, Z_expect hS C4 (by decide) ?_⟩
        have hE : EdS b n s n0 τ M0 o X γ cn ps tl (fun M' => Q none M') ((ex b n r.1 16).bind fun i4 => .ok (i4, r.2)) := hE
        have hxx : ∀ i4, ex b n r.1 16 = .ok i4 → i4 = r.1 + 1 := by
          intro i4 z
          unfold ex adv' at z
          split at z
          · split at z
            · cases z
            · cases z; rfl
          · cases z
        cases ex4 : ex b n r.1 16 with
        | error y =>
          rw [ex4] at hE
          intro M5 X5 _
          have F5 := X5.1.1
          exact ⟨rfl, 15, rf14_0 F5, ok15 F5, V_closes X5 (fun M' X' _ => ⟨rfl, hE M' X'⟩)⟩
        | ok i4 =>
          rw [ex4] at hE
          have e4 := hxx i4 ex4
          intro M5 C5 _
          have F5 := C5.1.1
          exact ⟨rfl, 15, rf14_0 F5, ok15 F5, Z_closes C5 (by omega) (fun M' C' _ => ⟨rfl, hE M' C' (by show (γ.2.2.2.2.2.1 ++ cdL (r.2.1.drop X.length)).length + 1 ≤ 3 * i4; omega)⟩)⟩
  · rw [if_pos h5] at hE
    have F2 := X2.1.1
    refine ⟨15, rf14_0 F2, ok15 F2, V_adv X2 (fun _ => ⟨rfl, 15, rf14_0 F2, ok15 F2, fun _ => vx M2 _ _ X2 (fun M' X' => hE M' X'), fun z => absurd z (by rw [X2.1.2.2.1]; exact X2.1.2.2.2.1)⟩)⟩
end
end
section
/-! the class reads parts: emit, sustain -/
section
variable {b : Nat → Int32} {n s n0 m : Nat} {τ : Td} {M0 M M' : Mem} {i o i' o' j : Nat} {γ : ClT} {σ : PS} {K : List KE} {cn cn' : Nat → Nat} {ps : List Nat} {tl : List Int64} {f c : Int32} {p t t' h B t0 : Nat} {Q : Option Value → Mem → Prop} {Q1 : Int32 → Mem → Prop} {W : Nat}
theorem EdP.er {e : Int32 × Nat} {v : Nat} (hE : EdP b n s n0 τ M0 o ps tl t0 Q1 (.error e)) (X : CX n0 τ M0 (s + 70) B M' e.1 e.2 ps tl t) (hB : B ≤ 10) (hv : v < t) (ht : t0 ≤ t) : Q1 (Int32.ofNat v) M' := hE M' ps v t (X.mono (Nat.le_refl _) hB) ⟨[], (List.append_nil _).symm⟩ hv ht
theorem EdP.ok' {r : Nat × PS × Nat} (hE : EdP b n s n0 τ M0 o ps tl t0 Q1 (.ok r)) (C : CS b n s n0 τ M0 M' r.1 o r.2.1.2.1 r.2.1.1.1 ps tl) : Q1 (Int32.ofNat r.2.2) M' := hE M' ps C ⟨[], (List.append_nil _).symm⟩
/-- an operation of the tree behind a fault -/
theorem V_op {d : MD} {args : List Value} (X : CX n0 τ M0 W B M f p ps tl t) (hS : ∀ Θ : TrT, TrP M Θ → t ≤ Θ.1 → 1 ≤ Θ.1 → ∃ r : TrT × Nat, Ts Θ r ∧ ∀ Q' : Option Value → Mem → Prop, (∀ M', TrP M' r.1 → TrF M M' → Q' (some (.int (Int32.ofNat r.2))) M') → E h d args M Q') (H : ∀ M' v t', CX n0 τ M0 W B M' f p ps tl t' → t ≤ t' → v < t' → Q (some (.int (Int32.ofNat v))) M') : E h d args M Q := by
  obtain ⟨Θ, hT, ht⟩ := X.trp
  obtain ⟨r, hr, hq⟩ := hS Θ hT ht hT.2.2.1.1
  exact hq Q (fun M' T' k => H M' r.2 r.1.1 (X.tree k T' (Nat.le_refl _)) (Nat.le_trans ht hr.1) hr.2)
theorem Z_emit {w : Int64} {H : Nat} (hB : By b) (hS : Sto b n s) (hC : CS b n s n0 τ M0 M i K.length σ.2.1 σ.1.1 ps tl) (hj : j < ps.length) (ho : K.length ≤ 15) (hH : 80 ≤ H) (hE : EdP b n s n0 τ M0 K.length ps tl (trS σ).1 (fun v M' => Q (some (.int v)) M') (lfM b n m τ 40 w j i K σ)) : E H mdX4_readEmit [.ref 14, .ref (ps.getD j 0)] M Q := by
  obtain ⟨H, rfl⟩ : ∃ H', H = H' + 80 := ⟨H - 80, by omega⟩
  have F := hC.1.1
  have t1 : 1 ≤ (trS σ).1 := hC.t1
  have L := hC.len
  have hE : EdP b n s n0 τ M0 K.length ps tl (trS σ).1 (fun v M' => Q (some (.int v)) M') ((emM b n m τ 40 j i K.length σ).bind fun r => .ok (r.1, trP1 r.2.1 (emT (trS r.2.1) r.2.2).1, (emT (trS r.2.1) r.2.2).2)) := hE
  have vx : ∀ (M2 : Mem) (f : Int32) (p x : Nat) (B : Nat), B ≤ 10 → CX n0 τ M0 (s + 70) B M2 f p ps tl (trS σ).1 → EdP b n s n0 τ M0 K.length ps tl (trS σ).1 (fun v M' => Q (some (.int v)) M') (.error (f, p)) → DX4_readEmit_134 (H + 79) 14 (Int32.ofNat x) M2 Q := by
    intro M2 f p x B hB10 X2 hq
    have F2 := X2.1.1
    unfold DX4_readEmit_134
    exact ⟨ok14 F2, 4, rf14_1 F2, ok4 F2, V_op X2 (fun Θ hT _ h1 => ⟨emT Θ x, ts_em h1, fun Q' H' => S_em F2 hT H'⟩) (fun M' v t' X' ht hv _ => ⟨_, rfl, hq.er X' hB10 hv ht⟩)⟩
  unfold emM at hE
  refine KX4_readEmit ?_
  unfold DX4_readEmit_0 DX4_readEmit_35
  refine ⟨ok14 F, 15, rf14_0 F, ok15 F, Z_emitted hB hC (fun hk k e hl hro _ => ⟨_, rfl, ?_⟩) (fun hk e M4 X4 _ => ⟨_, rfl, ?_⟩) (fun hk M4 X4 _ => ⟨_, rfl, ?_⟩)⟩
  · rw [if_pos hk, e] at hE
    have hE : EdP b n s n0 τ M0 K.length ps tl (trS σ).1 (fun v M' => Q (some (.int v)) M') ((if τ.2.1.getD k 0 = 30 then _ else _ : Except (Int32 × Nat) (Nat × PS × Nat)).bind _) := hE
    rw [if_neg hro] at hE
    have k16 := hC.2.1.env.2.1.1
    have pl : mI M 15 10 = Int32.ofNat (tP b n i) := hC.1.2.2.2.2.2.2.1
    refine ⟨15, rf14_0 F, ok15 F, Z_adv hS hC (by rw [hk]; decide) ?_⟩
    cases ea : adv' b n i with
    | error y =>
      rw [ea] at hE
      intro M8 X8 _
      have F8 := X8.1.1
      refine ⟨rfl, fun z => absurd z (oi_ne (by omega)), fun _ => ⟨15, rf14_0 F8, ok15 F8, fun z => absurd z (by rw [X8.1.2.2.1]; exact X8.1.2.2.2.1), fun _ => ?_⟩⟩
      exact EdP.er (v := 0) hE X8 (by decide) t1 (Nat.le_refl _)
    | ok i2 =>
      rw [ea] at hE
      have hE : EdP b n s n0 τ M0 K.length ps tl (trS σ).1 (fun v M' => Q (some (.int v)) M') ((if τ.2.2.1.getD k 0 = 0 then _ else _ : Except (Int32 × Nat) (Nat × PS × Nat)).bind _) := hE
      intro M8 C8 _
      have F8 := C8.1.1
      have hV := C8.2.1.env
      obtain ⟨-, -, -, -, -, -, -, -, h27, ⟨c1, c2, c3⟩, -⟩ := id hV
      have kd : mI M8 15 9 = tK b n i2 := C8.1.kind
      refine ⟨rfl, fun z => absurd z (oi_ne (by omega)), fun _ => ⟨15, rf14_0 F8, ok15 F8, fun _ => ⟨n0, C8.2.1.nz.2.2.2.2.2.1, hV.1, n0 + 3, h27, c1, by rw [c2]; exact vp_of (by omega) (by decide), ?_, ?_⟩, fun z => absurd C8.1.2.2.2.2.2.2.2.2.1 z⟩⟩
      · rw [lt32 (by omega), c3 k hl]
        intro mx
        rw [if_pos mx] at hE
        unfold DX4_readEmit_54 DX4_readEmit_75
        refine ⟨ok14 F8, 15, rf14_0 F8, ok15 F8, fun z => ?_, fun z => ?_⟩
        · rw [kd] at z
          rw [if_neg (fun y => z y.2)] at hE
          refine ⟨fun _ => ⟨fun _ => ?_, fun y => absurd rfl y⟩, fun y => absurd rfl y⟩
          unfold DX4_readEmit_134
          refine ⟨ok14 F8, 4, rf14_1 F8, ok4 F8, S_em F8 C8.2.1.trp (fun M9 T9 k9 _ => ⟨_, rfl, ?_⟩)⟩
          exact hE.ok' (C8.tree k9 T9)
        · rw [kd] at z
          rw [if_pos ⟨rfl, z⟩] at hE
          refine ⟨fun y => absurd y (by decide), fun _ => ⟨ok14 F8, 15, rf14_0 F8, ok15 F8, A_failAt C8.1 (by decide) pl (fun M9 T9 k9 _ => ⟨rfl, ?_⟩)⟩⟩
          exact vx M9 _ _ k 0 (by decide) (C8.x k9 T9) hE
      · rw [lt32 (by omega), c3 k hl]
        intro mx
        rw [if_neg mx] at hE
        unfold DX4_readEmit_54 DX4_readEmit_75
        refine ⟨ok14 F8, 15, rf14_0 F8, ok15 F8, fun z => ?_, fun z => ?_⟩
        · rw [kd] at z
          rw [if_neg (fun y => z y.2)] at hE
          refine ⟨fun y => absurd y (by decide), fun _ => ⟨ok14 F8, 15, rf14_0 F8, ok15 F8, A_failAt C8.1 (by decide) pl (fun M9 T9 k9 _ => ⟨rfl, ?_⟩)⟩⟩
          exact vx M9 _ _ k 0 (by decide) (C8.x k9 T9) hE
        · rw [kd] at z
          rw [if_pos ⟨rfl, z⟩] at hE
          refine ⟨fun _ => ⟨fun y => absurd y (by decide), fun _ => ⟨(C8.2.1.part hj).1, fun M9 e9 => ?_⟩⟩, fun y => absurd rfl y⟩
          have C9 := C8.pt hj e9
          intro M10 e10
          have C10 := C9.pt hj e10
          have F10 := C10.1.1
          have N10 := C10.2.1.nz
          refine ⟨ok14 F10, n0, N10.2.2.2.2.2.1, N10.2.2.1, n0 + 22, N10.2.2.2.2.2.2.2.2.1, N10.2.2.2.2.1, fun M11 e11 => ?_⟩
          have ln : mI M10 (n0 + 22) 1 = Int32.ofNat σ.2.1.2.2.2.2.2.1.length := by
            obtain ⟨lc, rc, cc, pb, ib, hq⟩ := C10.2.1
            exact hq.2.1.1.2.2.2.1
          rw [ln] at e11
          have C11 := C10.pt hj e11
          refine Z_brk (X := σ.2.2.1) hB hS C11 ho z (by omega) ?_
          have ek : ∀ M12 f p, CX n0 τ M0 (s + 70) 0 M12 f p ps tl (trS σ).1 → EdP b n s n0 τ M0 K.length ps tl (trS σ).1 (fun v M' => Q (some (.int v)) M') (.error (f, p)) → mE M11 M12 → (none : Option Value) = none ∧ ∃ b11, mR M12 14 7 = some b11 ∧ ok M12 b11 3 ∧ ∃ b13, mR M12 b11 8 = some b13 ∧ ok M12 b13 8 ∧ E (H + 79) mdX6_add [.ref b13, .int 0] M12 (fun r M15 => mE M12 M15 → r = none ∧ DX4_readEmit_134 (H + 79) 14 (Int32.ofNat k) M15 Q) := by
            intro M12 f p X12 hq _
            have N12 := X12.nz
            exact ⟨rfl, n0, N12.2.2.2.2.2.1, N12.2.2.1, n0 + 22, N12.2.2.2.2.2.2.2.2.1, N12.2.2.2.2.1, V_stop X12 (by decide) (fun M13 X13 _ => ⟨rfl, vx M13 f p k 1 (by decide) X13 hq⟩)⟩
          by_cases h15 : K.length = 15
          · rw [if_pos h15] at hE ⊢
            exact fun M12 X12 => ek M12 _ _ X12 hE
          · rw [if_neg h15] at hE ⊢
            cases ea2 : adv' b n i2 with
            | error y => rw [ea2] at hE; exact fun M12 X12 => ek M12 _ _ X12 hE
            | ok i3 =>
              rw [ea2] at hE
              have hE : EdP b n s n0 τ M0 K.length ps tl (trS σ).1 (fun v M' => Q (some (.int v)) M') ((((rd b n τ.1 τ.2.2.1 τ.2.2.2.1 6000 3 i3 (K.length + 1) σ.2.2.1 (usS σ)).bind _).bind _ : Except (Int32 × Nat) (Nat × PS × Nat)).bind _) := hE
              show EdS b n s n0 τ M0 K.length σ.2.2.1 _ _ ps tl _ ((rd b n τ.1 τ.2.2.1 τ.2.2.2.1 6000 3 i3 (K.length + 1) σ.2.2.1 (usS σ)).bind _)
              cases er : rd b n τ.1 τ.2.2.1 τ.2.2.2.1 6000 3 i3 (K.length + 1) σ.2.2.1 (usS σ) with
              | error y => rw [er] at hE; exact fun M12 X12 => ek M12 _ _ X12 hE
              | ok r =>
                rw [er] at hE
                have hE : EdP b n s n0 τ M0 K.length ps tl (trS σ).1 (fun v M' => Q (some (.int v)) M') (((ex b n r.1 16).bind _ : Except (Int32 × Nat) (Nat × PS × Nat)).bind _) := hE
                show EdS b n s n0 τ M0 K.length σ.2.2.1 _ _ ps tl _ ((ex b n r.1 16).bind _)
                cases e4 : ex b n r.1 16 with
                | error y => rw [e4] at hE; exact fun M12 X12 => ek M12 _ _ X12 hE
                | ok i4 =>
                  rw [e4] at hE
                  intro M12 C12 l12 _
                  have N12 := C12.2.1.nz
                  refine ⟨rfl, n0, N12.2.2.2.2.2.1, N12.2.2.1, n0 + 22, N12.2.2.2.2.2.2.2.2.1, N12.2.2.2.2.1, Z_stop C12 l12 (fun M13 C13 _ => ⟨rfl, ?_⟩)⟩
                  have F13 := C13.1.1
                  unfold DX4_readEmit_134
                  refine ⟨ok14 F13, 4, rf14_1 F13, ok4 F13, S_em F13 C13.2.1.trp (fun M14 T14 k14 _ => ⟨_, rfl, ?_⟩)⟩
                  exact hE.ok' (C13.tree k14 T14)
  · rw [if_pos hk] at hE
    have F4 := X4.1.1
    refine ⟨15, rf14_0 F4, ok15 F4, V_adv X4 (fun _ => ⟨rfl, fun _ => ?_, fun z => absurd rfl z⟩)⟩
    rcases e with e | ⟨k, e, hro⟩
    · rw [e] at hE
      exact EdP.er (v := 0) hE X4 (by decide) t1 (Nat.le_refl _)
    · rw [e] at hE
      have hE : EdP b n s n0 τ M0 K.length ps tl (trS σ).1 (fun v M' => Q (some (.int v)) M') ((if τ.2.1.getD k 0 = 30 then _ else _ : Except (Int32 × Nat) (Nat × PS × Nat)).bind _) := hE
      rw [if_pos hro] at hE
      exact EdP.er (v := 0) hE X4 (by decide) t1 (Nat.le_refl _)
  · rw [if_neg hk] at hE
    have F4 := X4.1.1
    refine ⟨15, rf14_0 F4, ok15 F4, V_adv X4 (fun _ => ⟨rfl, fun _ => ?_, fun z => absurd rfl z⟩)⟩
    exact EdP.er (v := 0) hE X4 (by decide) t1 (Nat.le_refl _)
end
end
