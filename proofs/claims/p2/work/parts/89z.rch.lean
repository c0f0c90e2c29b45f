/-! the reference: present and if -/
section
variable {b : Nat → Int32} {n s m : Nat} {τ : Td} {K : List KE} {σ : PS} {M M' : Mem} {i o h g : Nat} {Q : Option Value → Mem → Prop}
theorem trP1_1 {Θ : TrT} : (trP1 σ Θ).1 = σ.1 := rfl
theorem trP1_2 {Θ : TrT} : (trP1 σ Θ).2.2 = σ.2.2 := rfl
theorem R_ch {a2 a3 : Nat} {r : Nat × PS × Nat × Bool × Nat × Option Int64} (hB : By b) (hz : ∀ i, n ≤ i → b i = 0) (hS : Sto b n s) (ih : RpS b n s m τ h Q g) (hi : i ≤ s) (h0 : tK b n i ≠ 0) (hI : RpI m 2 K σ a2 a3) (hN : KNm b n m σ K) (hg : 6 * (s + 1 - i) ≤ g + 1) (ho : okK (tK b n i) (tC b n i) K.length τ σ (tP b n i) = .ok ()) (ha : tK b n (i + 1) ≠ 0) (hop : opnK (tK b n i) = true) (e : hdM b n m τ (tK b n i) (npS σ) (i + 1) K (bgP m (tK b n i) (tP b n i) (sqK K) K.length (whK (tK b n i) (tC b n i) τ) σ) = .ok r) (kc : tK b n i = 44 ∨ tK b n i = 58) (hE : EndZ b n s m τ K 2 a2 h M Q ((rp b n m τ g 0 ((40 * m + npS σ, r.2.1.1.1 4, 1, r.2.2.2.2.2) :: K) r.1 (rwP (40 * m + npS σ) none r.2.1) 0 0 0 0 0 0).bind fun q => if tK b n q.1 = 46 then ((adv' b n q.1).bind fun i2 => (rp b n m τ g 0 ((40 * m + npS σ, q.2.1.1.1 4, 2, none) :: K) i2 (rwP (40 * m + npS σ) (some (r.2.1.1.1 4)) q.2.1) 0 0 0 0 0 0).bind fun t => (chM b n r.2.2.1 q.2.2 t.2.2 t.1 t.2.1).bind fun u => .ok (u.1, fiP m (npS σ) u.2.2 u.2.1, u.2.2)) else ((chM b n r.2.2.1 q.2.2 (mkT (trS q.2.1) 0).2 q.1 (trP1 q.2.1 (mkT (trS q.2.1) 0).1)).bind fun u => .ok (u.1, fiP m (npS σ) u.2.2 u.2.1, u.2.2)))) (M1 : Mem) (R1 : RPs b n s m τ ((40 * m + npS σ, r.2.1.1.1 4, 1, r.2.2.2.2.2) :: K) (rwP (40 * m + npS σ) none r.2.1) M1 r.1 (K.length + 1)) (G1 : RGp m M M1) : SLp h Q M1 := by
  obtain ⟨⟨t0, t1, t2⟩, prw, okw, ⟨n1, n2, n3⟩, ⟨hl, o3, o2⟩, x58, n69, kn⟩ := hh_facts hB hS hi h0 hI hN ho ha hop e
  have nm : r.2.2.2.2.2 = none := (hd_nm hB e).2.2 (Or.inr kc)
  have hc := hI.2.2.2.2.2
  have I0 : RpI m 0 ((40 * m + npS σ, r.2.1.1.1 4, 1, r.2.2.2.2.2) :: K) (rwP (40 * m + npS σ) none r.2.1) 0 0 := ⟨okw, by show K.length + 1 ≤ 15; omega, fun _ => by show r.2.1.1.1 4 < _; rw [n2, n3]; exact Nat.lt_succ_self _, fun z => absurd z (by decide), fun z => absurd z (by decide), by rw [n2, n1]; omega⟩
  have ok0 := rp_ok (τ := τ) (m := m) hS g 0 ((40 * m + npS σ, r.2.1.1.1 4, 1, r.2.2.2.2.2) :: K) r.1 (rwP (40 * m + npS σ) none r.2.1) 0 0 0 0 0 0 (by decide) t1 t0 I0
  refine ih 0 ((40 * m + npS σ, r.2.1.1.1 4, 1, r.2.2.2.2.2) :: K) r.1 (rwP (40 * m + npS σ) none r.2.1) 0 0 0 0 0 0 M1 (by decide) t0 I0 kn (fun z => absurd z (by decide)) R1 (by rw [w0]; omega) ?_
  cases e0 : rp b n m τ g 0 ((40 * m + npS σ, r.2.1.1.1 4, 1, r.2.2.2.2.2) :: K) r.1 (rwP (40 * m + npS σ) none r.2.1) 0 0 0 0 0 0 with
  | error y => rw [e0] at hE; exact fun M2 T2 G2 => hE M2 T2 (G1.tr G2)
  | ok q =>
    rw [e0] at hE ok0
    have hE : EndZ b n s m τ K 2 a2 h M Q (if tK b n q.1 = 46 then ((adv' b n q.1).bind fun i2 => (rp b n m τ g 0 ((40 * m + npS σ, q.2.1.1.1 4, 2, none) :: K) i2 (rwP (40 * m + npS σ) (some (r.2.1.1.1 4)) q.2.1) 0 0 0 0 0 0).bind fun t => (chM b n r.2.2.1 q.2.2 t.2.2 t.1 t.2.1).bind fun u => .ok (u.1, fiP m (npS σ) u.2.2 u.2.1, u.2.2)) else ((chM b n r.2.2.1 q.2.2 (mkT (trS q.2.1) 0).2 q.1 (trP1 q.2.1 (mkT (trS q.2.1) 0).1)).bind fun u => .ok (u.1, fiP m (npS σ) u.2.2 u.2.1, u.2.2))) := hE
    obtain ⟨k1, k2, k3, ⟨p1, p2, p3, p4⟩, k5⟩ := ok0
    have h40 := p2.1
    intro M2 R2 G2 n13
    have R2 : RPs b n s m τ ((40 * m + npS σ, r.2.1.1.1 4, 1, r.2.2.2.2.2) :: K) q.2.1 M2 q.1 (K.length + 1) := R2
    have y58 : q.2.1.1.2.1 58 (40 * m + npS σ) = Int32.ofNat (soK (tK b n i)) := (p1.2.2.1 58 (by decide) (by decide) (by decide) (40 * m + npS σ) (by rw [n1]; omega)).trans x58
    have y69 : q.2.1.1.2.1 69 (40 * m + npS σ) ≠ -1 := by rw [p1.2.2.1 69 (by decide) (by decide) (by decide) (40 * m + npS σ) (by rw [n1]; omega)]; exact n69
    have hnq : npS σ + 1 ≤ npS q.2.1 := by have := p1.1; rw [n1] at this; exact this
    refine R_behind (e := (40 * m + npS σ, r.2.1.1.1 4, 1, r.2.2.2.2.2)) (j := npS σ) R2 hB (n13 (by decide)) o3 rfl hl ?_
    refine P_goElse (h := h + 8) (e := (40 * m + npS σ, r.2.1.1.1 4, 1, r.2.2.2.2.2)) (lit := 0) (x := 0) (y := 0) (k := tK b n i) R2 hB hz hS k3 o3 (by omega) kc y58 (by show (1 : Nat) ≤ 8; decide) (fun _ q46 => ?_) (fun hno => ?_)
    · rw [if_pos q46] at hE
      have hs := hS.lt k2 k3 (by rw [q46]; decide)
      refine ⟨fun j1 M3 R3 G3 => Or.inr (Or.inr ⟨q.2.1, q.1 + 1, rfl, R3, ⟨by omega, by show r.2.1.1.1 4 < 100; omega, y69⟩, fun M4 R4 G4 => ?_⟩), fun j1 M3 T3 G3 => Or.inl ⟨_, _, rfl, T3, ?_⟩⟩
      · rw [adv_ok' j1] at hE
        have hE : EndZ b n s m τ K 2 a2 h M Q ((rp b n m τ g 0 ((40 * m + npS σ, q.2.1.1.1 4, 2, none) :: K) (q.1 + 1) (rwP (40 * m + npS σ) (some (r.2.1.1.1 4)) q.2.1) 0 0 0 0 0 0).bind fun t => (chM b n r.2.2.1 q.2.2 t.2.2 t.1 t.2.1).bind fun u => .ok (u.1, fiP m (npS σ) u.2.2 u.2.1, u.2.2)) := hE
        have R4 : RPs b n s m τ ((40 * m + npS σ, q.2.1.1.1 4, 2, r.2.2.2.2.2) :: K) (rwP (40 * m + npS σ) (some (r.2.1.1.1 4)) q.2.1) M4 (q.1 + 1) (K.length + 1) := R4
        rw [nm] at R4
        obtain ⟨z1, z2, -⟩ := rw_n (σ := q.2.1) (p := 40 * m + npS σ) (q0 := some (r.2.1.1.1 4))
        have pv2 : Pv m (40 * m + npS σ) σ (rwP (40 * m + npS σ) (some (r.2.1.1.1 4)) q.2.1) := (prw.tr (p1.less (by rw [n1]; omega))).tr (Pv.rw (fun z => by cases z))
        have w58 : (rwP (40 * m + npS σ) (some (r.2.1.1.1 4)) q.2.1).1.2.1 58 (40 * m + npS σ) = Int32.ofNat (soK (tK b n i)) := by rw [← y58]; simp [rwP, up2]
        have kn2 : KNm b n m (rwP (40 * m + npS σ) (some (r.2.1.1.1 4)) q.2.1) ((40 * m + npS σ, q.2.1.1.1 4, 2, none) :: K) := by
          intro e' he'
          rcases List.mem_cons.mp he' with z | z
          · rw [z]
            refine ⟨⟨Nat.le_add_right _ _, by show 40 * m + npS σ < 40 * m + _; rw [z1]; omega⟩, Or.inr ⟨Or.inl rfl, ?_⟩⟩
            rw [w58]
            rcases kc with w | w <;> rw [w] <;> decide
          · exact (hN.pv pv2) e' z
        have I2 : RpI m 0 ((40 * m + npS σ, q.2.1.1.1 4, 2, none) :: K) (rwP (40 * m + npS σ) (some (r.2.1.1.1 4)) q.2.1) 0 0 := ⟨p2.rw, by show K.length + 1 ≤ 15; omega, fun _ => by show q.2.1.1.1 4 < _; rw [z2]; exact Nat.lt_succ_self _, fun z => absurd z (by decide), fun z => absurd z (by decide), by rw [z2, z1]; omega⟩
        have ok2 := rp_ok (τ := τ) (m := m) hS g 0 ((40 * m + npS σ, q.2.1.1.1 4, 2, none) :: K) (q.1 + 1) (rwP (40 * m + npS σ) (some (r.2.1.1.1 4)) q.2.1) 0 0 0 0 0 0 (by decide) hs j1 I2
        refine ih 0 ((40 * m + npS σ, q.2.1.1.1 4, 2, none) :: K) (q.1 + 1) (rwP (40 * m + npS σ) (some (r.2.1.1.1 4)) q.2.1) 0 0 0 0 0 0 M4 (by decide) j1 I2 kn2 (fun z => absurd z (by decide)) R4 (by rw [w0]; omega) ?_
        cases e2 : rp b n m τ g 0 ((40 * m + npS σ, q.2.1.1.1 4, 2, none) :: K) (q.1 + 1) (rwP (40 * m + npS σ) (some (r.2.1.1.1 4)) q.2.1) 0 0 0 0 0 0 with
        | error y => rw [e2] at hE; exact fun M5 T5 G5 => hE M5 T5 ((((G1.tr G2).tr G3).tr G4).tr G5)
        | ok t =>
          rw [e2] at hE ok2
          have hE : EndZ b n s m τ K 2 a2 h M Q ((chM b n r.2.2.1 q.2.2 t.2.2 t.1 t.2.1).bind fun u => .ok (u.1, fiP m (npS σ) u.2.2 u.2.1, u.2.2)) := hE
          obtain ⟨l1, l2, l3, ⟨s1, s2, s3, s4⟩, l5⟩ := ok2
          intro M5 R5 G5 m13
          have R5 : RPs b n s m τ ((40 * m + npS σ, q.2.1.1.1 4, 2, none) :: K) t.2.1 M5 t.1 (K.length + 1) := R5
          have v58 : t.2.1.1.2.1 58 (40 * m + npS σ) = Int32.ofNat (soK (tK b n i)) := (s1.2.2.1 58 (by decide) (by decide) (by decide) (40 * m + npS σ) (by rw [z1]; omega)).trans w58
          refine R_behind (e := (40 * m + npS σ, q.2.1.1.1 4, 2, none)) (j := npS σ) R5 hB (m13 (by decide)) o3 rfl hl ?_
          refine P_goElse (h := h + 8) (e := (40 * m + npS σ, q.2.1.1.1 4, 2, none)) (lit := 0) (x := 0) (y := 0) (k := tK b n i) R5 hB hz hS l3 o3 (by omega) kc v58 (by show (2 : Nat) ≤ 8; decide) (fun z => absurd z (by show ¬ (2 : Nat) = 1; decide)) (fun _ => ?_)
          exact ch_end (e := (40 * m + npS σ, q.2.1.1.1 4, 2, none)) (j := npS σ) (M := M) rfl rfl rfl s2.1 ((((G1.tr G2).tr G3).tr G4).tr G5) hE
      · rw [adv_er' j1] at hE
        exact hE M3 T3 ((G1.tr G2).tr G3)
    · rw [if_neg (fun z => hno ⟨rfl, z⟩)] at hE
      exact ch_end (e := (40 * m + npS σ, r.2.1.1.1 4, 1, r.2.2.2.2.2)) (j := npS σ) (M := M) (σ1 := q.2.1) (σ2 := trP1 q.2.1 (mkT (trS q.2.1) 0).1) (lit := r.2.2.1) (x := q.2.2) (y := (mkT (trS q.2.1) 0).2) (q := q.1) rfl trP1_1 trP1_2 h40 (G1.tr G2) hE
end
