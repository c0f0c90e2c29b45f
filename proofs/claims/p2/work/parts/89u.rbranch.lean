/-! the reference: branches -/
section
variable {b : Nat → Int32} {n s m : Nat} {τ : Td} {K : List KE} {σ : PS} {M M' : Mem} {i o h g : Nat} {Q : Option Value → Mem → Prop}
theorem RPs.cg {σ' : PS} (hR : RPs b n s m τ K σ M i o) (h1 : σ'.1 = σ.1) (h2 : σ'.2.2 = σ.2.2) : RPs b n s m τ K σ' M i o := by
  obtain ⟨c1, c2, c3, c4, c5, ⟨d1, d2, d3, d4, d5, d6, d7⟩, c7⟩ := hR
  refine ⟨c1, c2, c3, c4, c5, ⟨by rw [h2]; exact d1, by rw [h2]; exact d2, by rw [h1]; exact d3, by rw [h1]; exact d4, by rw [h1]; exact d5, by rw [h1]; exact d6, d7⟩, by rw [h2]; exact c7⟩
theorem br_2 {j a x : Nat} {g u : Int32} : (brP σ j a x g u).2.2 = σ.2.2 := by
  unfold brP
  split <;> rfl
theorem rw_cg {σ' : PS} {p : Nat} {q0 : Option Nat} (h1 : σ'.1 = σ.1) : (rwP p q0 σ').1 = (rwP p q0 σ).1 := by
  unfold rwP
  rw [h1]
theorem R_branch {a1 a2 a3 a4 : Nat} {c1 c2 : Int32} (hB : By b) (hz : ∀ i, n ≤ i → b i = 0) (hS : Sto b n s) (ih : RpS b n s m τ h Q g) (hR : RPs b n s m τ ((40 * m + a2, a3, a4, none) :: K) σ M i (K.length + 1)) (h0 : tK b n i ≠ 0) (hI : RpI m 3 K σ a2 a3) (hN : KNm b n m σ ((40 * m + a2, a3, a4, none) :: K)) (h16 : σ.1.2.1 58 (40 * m + a2) = 16 ∧ σ.1.2.1 69 (40 * m + a2) ≠ -1 ∧ 1 ≤ a4 ∧ a4 ≤ 8) (hg : 6 * (s + 1 - i) + 2 ≤ g + 1) (hE : EndZ b n s m τ K 3 a2 h M Q (rp b n m τ (g + 1) 3 K i σ a1 a2 a3 a4 c1 c2)) : SLp h Q M := by
  obtain ⟨hP, hK, -, h3, -, hc⟩ := hI
  obtain ⟨g1, g2, g3⟩ := h3 rfl
  have h40 := hP.1
  unfold rp at hE
  rw [if_neg (show ¬ (3 : Nat) = 0 by decide), if_neg (show ¬ (3 : Nat) = 1 by decide), if_neg (show ¬ (3 : Nat) = 2 by decide)] at hE
  have I0 : RpI m 0 ((40 * m + a2, a3, a4, none) :: K) (guP σ 0 0) 0 0 := ⟨hP, by show K.length + 1 ≤ 15; omega, fun _ => g2, fun z => absurd z (by decide), fun z => absurd z (by decide), hc⟩
  have ok0 := rp_ok (τ := τ) (m := m) hS g 0 ((40 * m + a2, a3, a4, none) :: K) i (guP σ 0 0) 0 0 0 0 0 0 (by decide) hR.2.1.2.2 h0 I0
  have r0 := ih 0 ((40 * m + a2, a3, a4, none) :: K) i (guP σ 0 0) 0 0 0 0 0 0 M (by decide) h0 I0 hN (fun z => absurd z (by decide)) (hR.cg rfl rfl) (by rw [w0]; omega)
  refine r0 ?_
  cases e : rp b n m τ g 0 ((40 * m + a2, a3, a4, none) :: K) i (guP σ 0 0) 0 0 0 0 0 0 with
  | error y => rw [e] at hE; exact hE
  | ok r =>
    rw [e] at hE ok0
    obtain ⟨k1, k2, k3, ⟨p1, p2, p3, p4⟩, k5⟩ := ok0
    have k5 := k5 (by decide)
    have p1 : Pv m (40 * m + npS σ) (guP σ 0 0) r.2.1 := p1
    have hE : EndZ b n s m τ K 3 a2 h M Q (if tK b n r.1 = 6 then (if a4 = 8 then .error (6, tP b n r.1) else (adv' b n r.1).bind fun j => rp b n m τ g 3 K j (rwP (40 * m + a2) (some a3) (brP r.2.1 a2 a1 r.2.2 c1 c2)) a1 a2 (r.2.1.1.1 4) (a4 + 1) (c1 ||| giS r.2.1) (c2 ||| usS r.2.1))
      else (ex b n r.1 18).bind fun j => .ok (j, brP r.2.1 a2 a1 r.2.2 c1 c2, a1)) := hE
    intro M1 R1 G1 n13
    have R1 : RPs b n s m τ ((40 * m + a2, a3, a4, none) :: K) r.2.1 M1 r.1 (K.length + 1) := R1
    have n13 := n13 (by decide)
    have x58 : r.2.1.1.2.1 58 (40 * m + a2) = 16 := (p1.2.2.1 58 (by decide) (by decide) (by decide) (40 * m + a2) (by omega)).trans h16.1
    have x69 : r.2.1.1.2.1 69 (40 * m + a2) ≠ -1 := by rw [p1.2.2.1 69 (by decide) (by decide) (by decide) (40 * m + a2) (by omega)]; exact h16.2.1
    have hn : npS σ ≤ npS r.2.1 := p1.1
    have h40' := p2.1
    have bn := br_n (σ := r.2.1) (j := a2) (a := a1) (x := r.2.2) (g := c1) (u := c2)
    refine R_behind (e := (40 * m + a2, a3, a4, none)) (j := a2) R1 hB n13 (by omega) rfl g1 ?_
    refine P_goAll (h := h + 8) (e := (40 * m + a2, a3, a4, none)) R1 hB hz hS k3 (by omega) (by omega) x58 h16.2.2.2 (fun q6 n8 => ?_) (fun q6 y8 => ?_) (fun n6 => ?_)
    · rw [if_pos q6, if_neg (show ¬ a4 = 8 from n8)] at hE
      have hs := hS.lt k2 k3 (by rw [q6]; decide)
      refine ⟨fun j1 M2 R2 G2 => Or.inr (Or.inr ⟨r.2.1, r.1 + 1, rfl, R2, ⟨by omega, by show a3 < 100; omega, x69⟩, fun M3 R3 G3 => ?_⟩), fun j1 M2 T2 G2 => Or.inl ⟨_, _, rfl, T2, ?_⟩⟩
      · rw [adv_ok' j1] at hE
        have hE : EndZ b n s m τ K 3 a2 h M Q (rp b n m τ g 3 K (r.1 + 1) (rwP (40 * m + a2) (some a3) (brP r.2.1 a2 a1 r.2.2 c1 c2)) a1 a2 (r.2.1.1.1 4) (a4 + 1) (c1 ||| giS r.2.1) (c2 ||| usS r.2.1)) := hE
        obtain ⟨x1, x2, x3⟩ := rw_n (σ := brP r.2.1 a2 a1 r.2.2 c1 c2) (p := 40 * m + a2) (q0 := some a3)
        have bnp : npS (brP r.2.1 a2 a1 r.2.2 c1 c2) = npS r.2.1 := by unfold npS; rw [bn.1]
        have e4 : (brP r.2.1 a2 a1 r.2.2 c1 c2).1.1 4 = r.2.1.1.1 4 := by rw [bn.1]
        have pw : Pv m (40 * m + npS σ) σ (rwP (40 * m + a2) (some a3) (brP r.2.1 a2 a1 r.2.2 c1 c2)) := ((Pv.gu.tr p1).tr Pv.br).tr (Pv.rw (fun z => by cases z))
        have y58 := (pw.2.2.1 58 (by decide) (by decide) (by decide) (40 * m + a2) (by omega)).trans h16.1
        have y69 : (rwP (40 * m + a2) (some a3) (brP r.2.1 a2 a1 r.2.2 c1 c2)).1.2.1 69 (40 * m + a2) ≠ -1 := by rw [pw.2.2.1 69 (by decide) (by decide) (by decide) (40 * m + a2) (by omega)]; exact h16.2.1
        have R3 : RPs b n s m τ ((40 * m + a2, r.2.1.1.1 4, a4 + 1, none) :: K) (rwP (40 * m + a2) (some a3) r.2.1) M3 (r.1 + 1) (K.length + 1) := R3
        have kn : KNm b n m (rwP (40 * m + a2) (some a3) (brP r.2.1 a2 a1 r.2.2 c1 c2)) ((40 * m + a2, r.2.1.1.1 4, a4 + 1, none) :: K) := by
          intro e' he'
          rcases List.mem_cons.mp he' with z | z
          · rw [z]
            exact ⟨⟨Nat.le_add_right _ _, by show 40 * m + a2 < 40 * m + _; rw [x1, bnp]; omega⟩, Or.inr ⟨Or.inl rfl, by rw [y58]; decide⟩⟩
          · exact (hN.pv pw) e' (List.mem_cons_of_mem _ z)
        have r3 := ih 3 K (r.1 + 1) (rwP (40 * m + a2) (some a3) (brP r.2.1 a2 a1 r.2.2 c1 c2)) a1 a2 (r.2.1.1.1 4) (a4 + 1) (c1 ||| giS r.2.1) (c2 ||| usS r.2.1) M3 (by decide) j1 ⟨p2.br.rw, hK, fun z => absurd z (by decide), fun _ => ⟨g1, by rw [x2, e4]; exact Nat.lt_succ_self _, by rw [x1, bnp]; omega⟩, fun z => absurd z (by decide), by rw [x2, x1, e4, bnp]; omega⟩ kn (fun _ => ⟨y58, y69, by omega, by have := h16.2.2.2; have n8 : a4 ≠ 8 := n8; omega⟩) (R3.cg (rw_cg bn.1) (by rw [x3]; exact br_2)) (by rw [w3]; omega)
        refine r3 ?_
        cases e3 : rp b n m τ g 3 K (r.1 + 1) (rwP (40 * m + a2) (some a3) (brP r.2.1 a2 a1 r.2.2 c1 c2)) a1 a2 (r.2.1.1.1 4) (a4 + 1) (c1 ||| giS r.2.1) (c2 ||| usS r.2.1) with
        | error y => rw [e3] at hE; exact fun M4 T4 G4 => hE M4 T4 (((G1.tr G2).tr G3).tr G4)
        | ok r' => rw [e3] at hE; exact fun M4 R4 G4 q => hE M4 R4 (((G1.tr G2).tr G3).tr G4) q
      · rw [adv_er' j1] at hE
        exact hE M2 T2 (G1.tr G2)
    · rw [if_pos q6, if_pos (show a4 = 8 from y8)] at hE
      exact fun M2 T2 G2 => Or.inl ⟨_, _, rfl, T2, hE M2 T2 (G1.tr G2)⟩
    · rw [if_neg n6] at hE
      cases ew : ex b n r.1 18 with
      | error y => rw [ew] at hE; exact fun M2 T2 G2 => Or.inl ⟨_, _, rfl, T2, hE M2 T2 (G1.tr G2)⟩
      | ok j2 =>
        rw [ew] at hE
        refine fun M2 R2 G2 => Or.inr (Or.inl ⟨r.2.1, j2, rfl, R2, h40', fun M3 R3 G3 => ?_⟩)
        refine hE M3 ?_ ((G1.tr G2).tr G3) (fun z => absurd z (by decide))
        show RPs b n s m τ K (raP (brP r.2.1 a2 a1 r.2.2 c1 c2) (up2 (brP r.2.1 a2 a1 r.2.2 c1 c2).1.2.1 71 (40 * m + a2) (Int32.ofNat (40 * m + npS (brP r.2.1 a2 a1 r.2.2 c1 c2))))) M3 j2 K.length
        have bnp : npS (brP r.2.1 a2 a1 r.2.2 c1 c2) = npS r.2.1 := by unfold npS; rw [bn.1]
        refine R3.cg ?_ br_2
        rw [bnp]
        unfold raP
        rw [bn.1]
end
