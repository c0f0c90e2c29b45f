/-! induction over a reading of parts, with all that is known of each of its pieces -/
/-- what is known of a piece: before, behind -/
def RQ (b : Nat → Int32) (n s m md : Nat) (K : List KE) (i : Nat) (σ : PS) (a1 a2 a3 : Nat) (r : Nat × PS × Nat) : Prop := (i ≤ s ∧ tK b n i ≠ 0 ∧ RpI m md K σ a2 a3) ∧ RpO m md σ a1 r.2 ∧ i ≤ r.1 ∧ r.1 ≤ s ∧ tK b n r.1 ≠ 0
section
variable {b : Nat → Int32} {n s m : Nat} {τ : Td}
theorem RQ.of {g md i a1 a2 a3 a4 : Nat} {K : List KE} {σ : PS} {c1 c2 : Int32} {r : Nat × PS × Nat} (hS : Sto b n s) (hm : md ≤ 3) (h : i ≤ s ∧ tK b n i ≠ 0 ∧ RpI m md K σ a2 a3) (e : rp b n m τ g md K i σ a1 a2 a3 a4 c1 c2 = .ok r) : RQ b n s m md K i σ a1 a2 a3 r := by
  have q := rp_ok (τ := τ) (m := m) hS g md K i σ a1 a2 a3 a4 c1 c2 hm h.1 h.2.1 h.2.2
  rw [e] at q
  exact ⟨h, q.2.2.2.1, q.1, q.2.1, q.2.2.1⟩
theorem rp_ind (hS : Sto b n s) (P0 P2 : List KE → Nat → PS → Nat × PS × Nat → Prop) (P1 : List KE → Nat → PS → Nat → Nat × PS × Nat → Prop) (P3 : List KE → Nat → PS → Nat → Nat → Nat → Nat → Int32 → Int32 → Nat × PS × Nat → Prop)
    (c0 : ∀ K i σ q r, RQ b n s m 0 K i σ 0 0 0 r → RQ b n s m 2 K i (trP1 σ (mkT (trS σ) 5).1) 0 0 0 q → P2 K i (trP1 σ (mkT (trS σ) 5).1) q → RQ b n s m 1 K q.1 (hgP q.2.1 (mkT (trS σ) 5).2 q.2.2) (mkT (trS σ) 5).2 0 0 r → P1 K q.1 (hgP q.2.1 (mkT (trS σ) 5).2 q.2.2) (mkT (trS σ) 5).2 r → P0 K i σ r)
    (c1m : ∀ K i σ a1 q r, tK b n i = 13 → RQ b n s m 1 K i σ a1 0 0 r → RQ b n s m 2 K (i + 1) σ 0 0 0 q → P2 K (i + 1) σ q → RQ b n s m 1 K q.1 (hgP q.2.1 a1 q.2.2) a1 0 0 r → P1 K q.1 (hgP q.2.1 a1 q.2.2) a1 r → P1 K i σ a1 r)
    (c1e : ∀ K i σ a1, tK b n i ≠ 13 → RQ b n s m 1 K i σ a1 0 0 (i, σ, a1) → P1 K i σ a1 (i, σ, a1))
    (c2l : ∀ K i σ u, okK (tK b n i) (tC b n i) K.length τ σ (tP b n i) = .ok () → opnK (tK b n i) = false → lfM b n m τ (tK b n i) (tC b n i) (npS σ) (i + 1) K (bgP m (tK b n i) (tP b n i) (sqK K) K.length (whK (tK b n i) (tC b n i) τ) σ) = .ok u → HdN m (npS σ) (bgP m (tK b n i) (tP b n i) (sqK K) K.length (whK (tK b n i) (tC b n i) τ) σ) u.2 → RQ b n s m 2 K i σ 0 0 0 (u.1, fiP m (npS σ) u.2.2 u.2.1, u.2.2) → P2 K i σ (u.1, fiP m (npS σ) u.2.2 u.2.1, u.2.2))
    (c2b : ∀ K i σ h q, okK (tK b n i) (tC b n i) K.length τ σ (tP b n i) = .ok () → tK b n i = 17 → hdM b n m τ (tK b n i) (npS σ) (i + 1) K (bgP m (tK b n i) (tP b n i) (sqK K) K.length (whK (tK b n i) (tC b n i) τ) σ) = .ok h → Hd m (npS σ) (bgP m (tK b n i) (tP b n i) (sqK K) K.length (whK (tK b n i) (tC b n i) τ) σ) h.2.1 → RQ b n s m 3 K h.1 (rwP (40 * m + npS σ) none h.2.1) h.2.2.2.2.1 (npS σ) (h.2.1.1.1 4) q → P3 K h.1 (rwP (40 * m + npS σ) none h.2.1) h.2.2.2.2.1 (npS σ) (h.2.1.1.1 4) 1 0 0 q → RQ b n s m 2 K i σ 0 0 0 (q.1, fiP m (npS σ) q.2.2 (guP q.2.1 (giS σ ||| giS q.2.1) (usS σ ||| usS q.2.1)), q.2.2) → P2 K i σ (q.1, fiP m (npS σ) q.2.2 (guP q.2.1 (giS σ ||| giS q.2.1) (usS σ ||| usS q.2.1)), q.2.2))
    (c2t : ∀ K i σ h q u, okK (tK b n i) (tC b n i) K.length τ σ (tP b n i) = .ok () → opnK (tK b n i) = true → tK b n i ≠ 17 → ¬ (tK b n i = 44 ∨ tK b n i = 58) → hdM b n m τ (tK b n i) (npS σ) (i + 1) K (bgP m (tK b n i) (tP b n i) (sqK K) K.length (whK (tK b n i) (tC b n i) τ) σ) = .ok h → Hd m (npS σ) (bgP m (tK b n i) (tP b n i) (sqK K) K.length (whK (tK b n i) (tC b n i) τ) σ) h.2.1 → RQ b n s m 0 ((40 * m + npS σ, h.2.1.1.1 4, 1, h.2.2.2.2.2) :: K) h.1 (rwP (40 * m + npS σ) none h.2.1) 0 0 0 q → P0 ((40 * m + npS σ, h.2.1.1.1 4, 1, h.2.2.2.2.2) :: K) h.1 (rwP (40 * m + npS σ) none h.2.1) q → tlM b n m τ (tK b n i) (npS σ) h.2.2.2.2.1 h.2.2.1 q.2.2 q.1 (K.length + 1) q.2.1 = .ok u → HdN m (npS σ) q.2.1 u.2 → RQ b n s m 2 K i σ 0 0 0 (u.1, fiP m (npS σ) u.2.2 u.2.1, u.2.2) → P2 K i σ (u.1, fiP m (npS σ) u.2.2 u.2.1, u.2.2))
    (c2e : ∀ K i σ h q t u, okK (tK b n i) (tC b n i) K.length τ σ (tP b n i) = .ok () → opnK (tK b n i) = true → tK b n i = 44 ∨ tK b n i = 58 → hdM b n m τ (tK b n i) (npS σ) (i + 1) K (bgP m (tK b n i) (tP b n i) (sqK K) K.length (whK (tK b n i) (tC b n i) τ) σ) = .ok h → Hd m (npS σ) (bgP m (tK b n i) (tP b n i) (sqK K) K.length (whK (tK b n i) (tC b n i) τ) σ) h.2.1 → RQ b n s m 0 ((40 * m + npS σ, h.2.1.1.1 4, 1, h.2.2.2.2.2) :: K) h.1 (rwP (40 * m + npS σ) none h.2.1) 0 0 0 q → P0 ((40 * m + npS σ, h.2.1.1.1 4, 1, h.2.2.2.2.2) :: K) h.1 (rwP (40 * m + npS σ) none h.2.1) q → tK b n q.1 = 46 → RQ b n s m 0 ((40 * m + npS σ, q.2.1.1.1 4, 2, none) :: K) (q.1 + 1) (rwP (40 * m + npS σ) (some (h.2.1.1.1 4)) q.2.1) 0 0 0 t → P0 ((40 * m + npS σ, q.2.1.1.1 4, 2, none) :: K) (q.1 + 1) (rwP (40 * m + npS σ) (some (h.2.1.1.1 4)) q.2.1) t → chM b n h.2.2.1 q.2.2 t.2.2 t.1 t.2.1 = .ok u → HdN m (npS σ) t.2.1 u.2 → RQ b n s m 2 K i σ 0 0 0 (u.1, fiP m (npS σ) u.2.2 u.2.1, u.2.2) → P2 K i σ (u.1, fiP m (npS σ) u.2.2 u.2.1, u.2.2))
    (c2n : ∀ K i σ h q u, okK (tK b n i) (tC b n i) K.length τ σ (tP b n i) = .ok () → opnK (tK b n i) = true → tK b n i = 44 ∨ tK b n i = 58 → hdM b n m τ (tK b n i) (npS σ) (i + 1) K (bgP m (tK b n i) (tP b n i) (sqK K) K.length (whK (tK b n i) (tC b n i) τ) σ) = .ok h → Hd m (npS σ) (bgP m (tK b n i) (tP b n i) (sqK K) K.length (whK (tK b n i) (tC b n i) τ) σ) h.2.1 → RQ b n s m 0 ((40 * m + npS σ, h.2.1.1.1 4, 1, h.2.2.2.2.2) :: K) h.1 (rwP (40 * m + npS σ) none h.2.1) 0 0 0 q → P0 ((40 * m + npS σ, h.2.1.1.1 4, 1, h.2.2.2.2.2) :: K) h.1 (rwP (40 * m + npS σ) none h.2.1) q → tK b n q.1 ≠ 46 → chM b n h.2.2.1 q.2.2 (mkT (trS q.2.1) 0).2 q.1 (trP1 q.2.1 (mkT (trS q.2.1) 0).1) = .ok u → HdN m (npS σ) (trP1 q.2.1 (mkT (trS q.2.1) 0).1) u.2 → RQ b n s m 2 K i σ 0 0 0 (u.1, fiP m (npS σ) u.2.2 u.2.1, u.2.2) → P2 K i σ (u.1, fiP m (npS σ) u.2.2 u.2.1, u.2.2))
    (c3m : ∀ K i σ a1 a2 a3 a4 c1 c2 q r, RQ b n s m 3 K i σ a1 a2 a3 r → RQ b n s m 0 ((40 * m + a2, a3, a4, none) :: K) i (guP σ 0 0) 0 0 0 q → P0 ((40 * m + a2, a3, a4, none) :: K) i (guP σ 0 0) q → tK b n q.1 = 6 → a4 ≠ 8 → RQ b n s m 3 K (q.1 + 1) (rwP (40 * m + a2) (some a3) (brP q.2.1 a2 a1 q.2.2 c1 c2)) a1 a2 (q.2.1.1.1 4) r → P3 K (q.1 + 1) (rwP (40 * m + a2) (some a3) (brP q.2.1 a2 a1 q.2.2 c1 c2)) a1 a2 (q.2.1.1.1 4) (a4 + 1) (c1 ||| giS q.2.1) (c2 ||| usS q.2.1) r → P3 K i σ a1 a2 a3 a4 c1 c2 r)
    (c3e : ∀ K i σ a1 a2 a3 a4 c1 c2 q, RQ b n s m 3 K i σ a1 a2 a3 (q.1 + 1, brP q.2.1 a2 a1 q.2.2 c1 c2, a1) → RQ b n s m 0 ((40 * m + a2, a3, a4, none) :: K) i (guP σ 0 0) 0 0 0 q → P0 ((40 * m + a2, a3, a4, none) :: K) i (guP σ 0 0) q → tK b n q.1 ≠ 6 → P3 K i σ a1 a2 a3 a4 c1 c2 (q.1 + 1, brP q.2.1 a2 a1 q.2.2 c1 c2, a1)) :
    ∀ g, (∀ K i σ r, i ≤ s ∧ tK b n i ≠ 0 ∧ RpI m 0 K σ 0 0 → rp b n m τ g 0 K i σ 0 0 0 0 0 0 = .ok r → P0 K i σ r) ∧ (∀ K i σ a1 r, i ≤ s ∧ tK b n i ≠ 0 ∧ RpI m 1 K σ 0 0 → rp b n m τ g 1 K i σ a1 0 0 0 0 0 = .ok r → P1 K i σ a1 r) ∧ (∀ K i σ r, i ≤ s ∧ tK b n i ≠ 0 ∧ RpI m 2 K σ 0 0 → rp b n m τ g 2 K i σ 0 0 0 0 0 0 = .ok r → P2 K i σ r) ∧ (∀ K i σ a1 a2 a3 a4 c1 c2 r, i ≤ s ∧ tK b n i ≠ 0 ∧ RpI m 3 K σ a2 a3 → rp b n m τ g 3 K i σ a1 a2 a3 a4 c1 c2 = .ok r → P3 K i σ a1 a2 a3 a4 c1 c2 r) := by
  intro g
  induction g with
  | zero => exact ⟨fun K i σ r _ e => (by unfold rp at e; cases e), fun K i σ a1 r _ e => (by unfold rp at e; cases e), fun K i σ r _ e => (by unfold rp at e; cases e), fun K i σ a1 a2 a3 a4 c1 c2 r _ e => (by unfold rp at e; cases e)⟩
  | succ g ih =>
    obtain ⟨i0, i1, i2, i3⟩ := ih
    refine ⟨fun K i σ r hp e => ?_, fun K i σ a1 r hp e => ?_, fun K i σ r hp e => ?_, fun K i σ a1 a2 a3 a4 c1 c2 r hp e => ?_⟩
    · have hR := RQ.of hS (by decide) hp e
      obtain ⟨hi, h0, hP, hK, hq, h3, h1, hc⟩ := hp
      unfold rp at e
      rw [if_pos rfl] at e
      obtain ⟨q, e1, e⟩ := bind_ok e
      have p2 : i ≤ s ∧ tK b n i ≠ 0 ∧ RpI m 2 K (trP1 σ (mkT (trS σ) 5).1) 0 0 := ⟨hi, h0, hP, hK, fun _ => hq (by decide), fun z => absurd z (by decide), fun z => absurd z (by decide), hc⟩
      have R2 := RQ.of hS (by decide) p2 e1
      obtain ⟨-, ⟨v1, v2, v3, v4⟩, j1, j2, j3⟩ := id R2
      have p1 : q.1 ≤ s ∧ tK b n q.1 ≠ 0 ∧ RpI m 1 K (hgP q.2.1 (mkT (trS σ) 5).2 q.2.2) 0 0 := ⟨j2, j3, v2, hK, fun _ => Nat.lt_of_lt_of_le (hq (by decide)) v1.2.1, fun z => absurd z (by decide), fun _ => v3, Nat.le_succ_of_le v3⟩
      exact c0 K i σ q r hR R2 (i2 _ _ _ _ p2 e1) (RQ.of hS (by decide) p1 e) (i1 _ _ _ _ _ p1 e)
    · have hR := RQ.of hS (by decide) hp e
      obtain ⟨hi, h0, hP, hK, hq, h3, h1, hc⟩ := hp
      unfold rp at e
      rw [if_neg (by decide), if_pos rfl] at e
      by_cases k : tK b n i = 13
      · rw [if_pos k] at e
        obtain ⟨j, ea, e⟩ := bind_ok e
        obtain ⟨rfl, ha⟩ := adv_is ea
        obtain ⟨q, e1, e⟩ := bind_ok e
        have hs := hS.lt hi h0 (by rw [k]; decide)
        have p2 : i + 1 ≤ s ∧ tK b n (i + 1) ≠ 0 ∧ RpI m 2 K σ 0 0 := ⟨hs, ha, hP, hK, fun _ => hq (by decide), fun z => absurd z (by decide), fun z => absurd z (by decide), hc⟩
        have R2 := RQ.of hS (by decide) p2 e1
        obtain ⟨-, ⟨v1, v2, v3, v4⟩, j1, j2, j3⟩ := id R2
        have p1 : q.1 ≤ s ∧ tK b n q.1 ≠ 0 ∧ RpI m 1 K (hgP q.2.1 a1 q.2.2) 0 0 := ⟨j2, j3, v2, hK, fun _ => Nat.lt_of_lt_of_le (hq (by decide)) v1.2.1, fun z => absurd z (by decide), fun _ => v3, Nat.le_succ_of_le v3⟩
        exact c1m K i σ a1 q r k hR R2 (i2 _ _ _ _ p2 e1) (RQ.of hS (by decide) p1 e) (i1 _ _ _ _ _ p1 e)
      · rw [if_neg k] at e
        cases e
        exact c1e K i σ a1 k hR
    · have hR := RQ.of hS (by decide) hp e
      have hI := hp.2.2
      obtain ⟨hi, h0, hP, hK, hq, h3, h1, hc⟩ := hp
      rw [rp_bd] at e
      obtain ⟨u0, eo, e⟩ := bind_ok e
      obtain ⟨j, ea, e⟩ := bind_ok e
      obtain ⟨rfl, ha⟩ := adv_is ea
      obtain ⟨u, eb, e⟩ := bind_ok e
      cases e
      have hs1 := hS.lt hi h0 (fun z => (okK_ok eo).2.1 (by rw [z]; exact soK_1))
      unfold bdM at eb
      by_cases ko : opnK (tK b n i) = false
      · rw [if_pos ko] at eb
        have q := lfM_ok (F := True) (m := m) (τ := τ) (k := tK b n i) (w := tC b n i) (j := npS σ) (K := K) (σ := bgP m (tK b n i) (tP b n i) (sqK K) K.length (whK (tK b n i) (tC b n i) τ) σ) hS (i := i + 1) hs1 ha
        rw [eb] at q
        exact c2l K i σ u eo ko eb q.2.2.2 hR
      rw [if_neg ko] at eb
      have hop : opnK (tK b n i) = true := by cases ht : opnK (tK b n i) with
        | false => exact absurd ht ko
        | true => rfl
      obtain ⟨h, eh, eb⟩ := bind_ok eb
      have hok := hdM_ok (F := True) (m := m) (τ := τ) (k := tK b n i) (j := npS σ) (K := K) (σ := bgP m (tK b n i) (tP b n i) (sqK K) K.length (whK (tK b n i) (tC b n i) τ) σ) hS (i := i + 1) hs1 ha
      rw [eh] at hok
      have hH := hok.2.2.2.1
      obtain ⟨⟨t0, t1, t2⟩, okw, ⟨m1, m2, m3⟩, ⟨hl, o3⟩, -, prw⟩ := hc_facts hS hi h0 hI eo ha hop eh
      by_cases k17 : tK b n i = 17
      · rw [if_pos k17] at eb
        obtain ⟨q, e3, eb⟩ := bind_ok eb
        cases eb
        have p3 : h.1 ≤ s ∧ tK b n h.1 ≠ 0 ∧ RpI m 3 K (rwP (40 * m + npS σ) none h.2.1) (npS σ) (h.2.1.1.1 4) := ⟨t1, t0, okw, hI.2.1, fun z => absurd z (by decide), fun _ => ⟨hl, by rw [m2, m3]; exact Nat.lt_succ_self _, by rw [m1]; exact Nat.lt_succ_self _⟩, fun z => absurd z (by decide), by rw [m2, m1]; omega⟩
        exact c2b K i σ h q eo k17 eh hH (RQ.of hS (by decide) p3 e3) (i3 _ _ _ _ _ _ _ _ _ _ p3 e3) hR
      rw [if_neg k17] at eb
      obtain ⟨q, e0, eb⟩ := bind_ok eb
      have p0 : h.1 ≤ s ∧ tK b n h.1 ≠ 0 ∧ RpI m 0 ((40 * m + npS σ, h.2.1.1.1 4, 1, h.2.2.2.2.2) :: K) (rwP (40 * m + npS σ) none h.2.1) 0 0 := ⟨t1, t0, okw, by show K.length + 1 ≤ 15; omega, fun _ => by show h.2.1.1.1 4 < _; rw [m2, m3]; exact Nat.lt_succ_self _, fun z => absurd z (by decide), fun z => absurd z (by decide), by rw [m2, m1]; omega⟩
      have R0 := RQ.of hS (by decide) p0 e0
      obtain ⟨-, ⟨v1, v2, v3, v4⟩, j1, j2, j3⟩ := id R0
      by_cases kc : tK b n i = 44 ∨ tK b n i = 58
      · rw [if_pos kc] at eb
        by_cases k46 : tK b n q.1 = 46
        · rw [if_pos k46] at eb
          obtain ⟨j5, ea2, eb⟩ := bind_ok eb
          obtain ⟨rfl, ha2⟩ := adv_is ea2
          obtain ⟨t, e4, eb⟩ := bind_ok eb
          have hs2 := hS.lt j2 j3 (by rw [k46]; decide)
          obtain ⟨x1, x2, x3⟩ := rw_n (σ := q.2.1) (p := 40 * m + npS σ) (q0 := some (h.2.1.1.1 4))
          have p4 : q.1 + 1 ≤ s ∧ tK b n (q.1 + 1) ≠ 0 ∧ RpI m 0 ((40 * m + npS σ, q.2.1.1.1 4, 2, none) :: K) (rwP (40 * m + npS σ) (some (h.2.1.1.1 4)) q.2.1) 0 0 := ⟨hs2, ha2, v2.rw, by show K.length + 1 ≤ 15; omega, fun _ => by show q.2.1.1.1 4 < _; rw [x2]; exact Nat.lt_succ_self _, fun z => absurd z (by decide), fun z => absurd z (by decide), by rw [x2, x1]; omega⟩
          have R4 := RQ.of hS (by decide) p4 e4
          have cq := chM_ok (F := True) (lit := h.2.2.1) (x := q.2.2) (y := t.2.2) (m := m) (j := npS σ) (σ := t.2.1) hS R4.2.2.2.1
          rw [eb] at cq
          exact c2e K i σ h q t u eo hop kc eh hH R0 (i0 _ _ _ _ p0 e0) k46 R4 (i0 _ _ _ _ p4 e4) eb cq.2.2.2 hR
        · rw [if_neg k46] at eb
          have cq := chM_ok (F := True) (lit := h.2.2.1) (x := q.2.2) (y := (mkT (trS q.2.1) 0).2) (m := m) (j := npS σ) (σ := trP1 q.2.1 (mkT (trS q.2.1) 0).1) hS j2
          rw [eb] at cq
          exact c2n K i σ h q u eo hop kc eh hH R0 (i0 _ _ _ _ p0 e0) k46 eb cq.2.2.2 hR
      rw [if_neg kc] at eb
      have tq := tlM_ok (F := True) (m := m) (τ := τ) (k := tK b n i) (j := npS σ) (aw := h.2.2.2.2.1) (lit := h.2.2.1) (x := q.2.2) (o := K.length + 1) (σ := q.2.1) hS j2
      rw [eb] at tq
      exact c2t K i σ h q u eo hop k17 kc eh hH R0 (i0 _ _ _ _ p0 e0) eb tq.2.2.2 hR
    · have hR := RQ.of hS (by decide) hp e
      obtain ⟨hi, h0, hP, hK, hq, h3, h1, hc⟩ := hp
      obtain ⟨g1, g2, g3⟩ := h3 rfl
      unfold rp at e
      rw [if_neg (by decide), if_neg (by decide), if_neg (by decide)] at e
      obtain ⟨q, e1, e⟩ := bind_ok e
      have p0 : i ≤ s ∧ tK b n i ≠ 0 ∧ RpI m 0 ((40 * m + a2, a3, a4, none) :: K) (guP σ 0 0) 0 0 := ⟨hi, h0, hP, by show K.length + 1 ≤ 15; omega, fun _ => g2, fun z => absurd z (by decide), fun z => absurd z (by decide), hc⟩
      have R0 := RQ.of hS (by decide) p0 e1
      obtain ⟨-, ⟨v1, v2, v3, v4⟩, j1, j2, j3⟩ := id R0
      by_cases k6 : tK b n q.1 = 6
      · rw [if_pos k6] at e
        by_cases k8 : a4 = 8
        · rw [if_pos k8] at e; cases e
        rw [if_neg k8] at e
        obtain ⟨j, ea, e⟩ := bind_ok e
        obtain ⟨rfl, ha⟩ := adv_is ea
        have hs := hS.lt j2 j3 (by rw [k6]; decide)
        obtain ⟨x1, x2, x3⟩ := rw_n (σ := brP q.2.1 a2 a1 q.2.2 c1 c2) (p := 40 * m + a2) (q0 := some a3)
        have bn := br_n (σ := q.2.1) (j := a2) (a := a1) (x := q.2.2) (g := c1) (u := c2)
        have x2' : (rwP (40 * m + a2) (some a3) (brP q.2.1 a2 a1 q.2.2 c1 c2)).1.1 4 = q.2.1.1.1 4 + 1 := by rw [x2, bn.1]
        have x1' : npS (rwP (40 * m + a2) (some a3) (brP q.2.1 a2 a1 q.2.2 c1 c2)) = npS q.2.1 := by rw [x1]; unfold npS; rw [bn.1]
        have hn : npS σ ≤ npS q.2.1 := v1.1
        have p3 : q.1 + 1 ≤ s ∧ tK b n (q.1 + 1) ≠ 0 ∧ RpI m 3 K (rwP (40 * m + a2) (some a3) (brP q.2.1 a2 a1 q.2.2 c1 c2)) a2 (q.2.1.1.1 4) := ⟨hs, ha, (PsOk.br v2).rw, hK, fun z => absurd z (by decide), fun _ => ⟨g1, by rw [x2']; exact Nat.lt_succ_self _, by rw [x1']; omega⟩, fun z => absurd z (by decide), by rw [x2', x1']; omega⟩
        exact c3m K i σ a1 a2 a3 a4 c1 c2 q r hR R0 (i0 _ _ _ _ p0 e1) k6 k8 (RQ.of hS (by decide) p3 e) (i3 _ _ _ _ _ _ _ _ _ _ p3 e)
      · rw [if_neg k6] at e
        obtain ⟨j, ea, e⟩ := bind_ok e
        have hj : j = q.1 + 1 := by
          unfold ex at ea
          by_cases k18 : tK b n q.1 = 18
          · rw [if_pos k18] at ea; exact (adv_is ea).1
          · rw [if_neg k18] at ea; cases ea
        subst hj
        cases e
        exact c3e K i σ a1 a2 a3 a4 c1 c2 q hR R0 (i0 _ _ _ _ p0 e1) k6
end
