/-! the class reads parts: bodies -/
section
variable {b : Nat → Int32} {n s n0 m : Nat} {τ : Td} {M0 M M1 M' : Mem} {i o j g a2 a3 H : Nat} {γ : ClT} {σ σ0 : PS} {K : List KE} {cn cn' : Nat → Nat} {ps ps1 : List Nat} {tl : List Int64} {f k : Int32} {w : Int64} {p t t' h B t0 t1 : Nat} {Q : Option Value → Mem → Prop} {Q1 Q2 : Int32 → Mem → Prop} {W : Nat}
/-- what is known when a part with rows is begun -/
def Bgn (b : Nat → Int32) (n s m : Nat) (τ : Td) (K : List KE) (i : Nat) (σ σ0 : PS) (g : Nat) : Prop := (i ≤ s ∧ tK b n i ≠ 0 ∧ tK b n (i + 1) ≠ 0) ∧ RpI m 2 K σ 0 0 ∧ okK (tK b n i) (tC b n i) K.length τ σ (tP b n i) = .ok () ∧ opnK (tK b n i) = true ∧ 6 * (s + 1 - i) ≤ g + 1 ∧ σ0 = bgP m (tK b n i) (tP b n i) (sqK K) K.length (whK (tK b n i) (tC b n i) τ) σ
theorem hK_s (K : List KE) (e : KE) (h : K.length ≤ 15) : hK (e :: K) + 6 = hK K := by
  unfold hK
  show 100 + 6 * (16 - (K.length + 1)) + 6 = 100 + 6 * (16 - K.length)
  omega
theorem Bgn.i0 {r : Nat × PS × Nat × Bool × Nat × Option Int64} (hS : Sto b n s) (G : Bgn b n s m τ K i σ σ0 g) (e : hdM b n m τ (tK b n i) (npS σ) (i + 1) K σ0 = .ok r) : (tK b n r.1 ≠ 0 ∧ r.1 ≤ s ∧ i < r.1) ∧ RpI m 0 ((40 * m + npS σ, r.2.1.1.1 4, 1, r.2.2.2.2.2) :: K) (rwP (40 * m + npS σ) none r.2.1) 0 0 ∧ K.length ≤ 14 ∧ npS (rwP (40 * m + npS σ) none r.2.1) = npS σ + 1 ∧ σ.1.1 4 ≤ npS σ + 1 ∧ (1 ≤ (trS σ).1 → (trS σ).1 ≤ (trS r.2.1).1 ∧ r.2.2.2.2.1 < (trS r.2.1).1) := by
  obtain ⟨⟨hi, h0, ha⟩, hI, ho, hop, hg, rfl⟩ := G
  obtain ⟨q1, okw, ⟨n1, n2, n3⟩, ⟨hl, o3⟩, hw, -⟩ := hc_facts hS hi h0 hI ho ha hop e
  have hc := hI.2.2.2.2.2
  exact ⟨q1, ⟨okw, by show K.length + 1 ≤ 15; omega, fun _ => by show r.2.1.1.1 4 < _; rw [n2, n3]; exact Nat.lt_succ_self _, fun z => absurd z (by decide), fun z => absurd z (by decide), by rw [n2, n1]; omega⟩, hl, n1, hc, hw⟩
/-- the first row of a part -/
theorem row_go {r : Nat × PS × Nat × Bool × Nat × Option Int64} (hS : Sto b n s) (ih : RcS b n s n0 m τ M0 g) (G : Bgn b n s m τ K i σ σ0 g) (e : hdM b n m τ (tK b n i) (npS σ) (i + 1) K σ0 = .ok r) (hH : hK K ≤ H + 5) (C : CS b n s n0 τ M0 M1 r.1 (K.length + 1) r.2.1.2.1 r.2.1.1.1 ps1 (tlK ((40 * m + npS σ, r.2.1.1.1 4, 1, r.2.2.2.2.2) :: K))) (hE : EdP b n s n0 τ M0 (K.length + 1) ps1 (tlK ((40 * m + npS σ, r.2.1.1.1 4, 1, r.2.2.2.2.2) :: K)) (trS r.2.1).1 (fun v M' => Q (some (.int v)) M') (rp b n m τ g 0 ((40 * m + npS σ, r.2.1.1.1 4, 1, r.2.2.2.2.2) :: K) r.1 (rwP (40 * m + npS σ) none r.2.1) 0 0 0 0 0 0)) : E H mdX4_readSeq [.ref 14, .int (Int32.ofNat (K.length + 1))] M1 Q := by
  obtain ⟨⟨q1, q2, q3⟩, I0, hl, -⟩ := G.i0 hS e
  have hg := G.2.2.2.2.1
  have hk := hK_s K (40 * m + npS σ, r.2.1.1.1 4, 1, r.2.2.2.2.2) (by omega)
  exact ih.1 ((40 * m + npS σ, r.2.1.1.1 4, 1, r.2.2.2.2.2) :: K) r.1 (rwP (40 * m + npS σ) none r.2.1) 0 0 0 0 0 0 M1 ps1 H Q I0 (C.cnt rfl rfl rfl rfl) (by omega) (by omega) hE
theorem row_ok {r : Nat × PS × Nat × Bool × Nat × Option Int64} {q : Nat × PS × Nat} (hS : Sto b n s) (G : Bgn b n s m τ K i σ σ0 g) (e : hdM b n m τ (tK b n i) (npS σ) (i + 1) K σ0 = .ok r) (t1 : 1 ≤ (trS r.2.1).1) (eq : rp b n m τ g 0 ((40 * m + npS σ, r.2.1.1.1 4, 1, r.2.2.2.2.2) :: K) r.1 (rwP (40 * m + npS σ) none r.2.1) 0 0 0 0 0 0 = .ok q) : (trS r.2.1).1 ≤ (trS q.2.1).1 ∧ q.2.2 < (trS q.2.1).1 ∧ (r.1 < q.1 ∧ q.1 ≤ s ∧ tK b n q.1 ≠ 0) ∧ PsOk m q.2.1 ∧ q.2.1.1.1 4 ≤ npS q.2.1 ∧ npS σ + 1 ≤ npS q.2.1 := by
  obtain ⟨⟨q1, q2, q3⟩, I0, hl, n1, -⟩ := G.i0 hS e
  have ok0 := rp_ok (τ := τ) (m := m) hS g 0 ((40 * m + npS σ, r.2.1.1.1 4, 1, r.2.2.2.2.2) :: K) r.1 (rwP (40 * m + npS σ) none r.2.1) 0 0 0 0 0 0 (by decide) q2 q1 I0
  rw [eq] at ok0
  obtain ⟨k1, k2, k3, ⟨p1, p2, p3, p4⟩, k5⟩ := ok0
  have a1 : (trS r.2.1).1 ≤ (trS q.2.1).1 := p1.2.2.2.2 t1
  exact ⟨a1, p4 t1 (fun z => by omega), ⟨k5 (by decide), k2, k3⟩, p2, p3, by have := p1.1; rw [n1] at this; exact this⟩
/-- the second row of a choice -/
theorem row_go2 {r : Nat × PS × Nat × Bool × Nat × Option Int64} {q : Nat × PS × Nat} (hS : Sto b n s) (ih : RcS b n s n0 m τ M0 g) (G : Bgn b n s m τ K i σ σ0 g) (e : hdM b n m τ (tK b n i) (npS σ) (i + 1) K σ0 = .ok r) (t1 : 1 ≤ (trS r.2.1).1) (eq : rp b n m τ g 0 ((40 * m + npS σ, r.2.1.1.1 4, 1, r.2.2.2.2.2) :: K) r.1 (rwP (40 * m + npS σ) none r.2.1) 0 0 0 0 0 0 = .ok q) (k46 : tK b n q.1 = 46) {i3 : Nat} (ea : adv' b n q.1 = .ok i3) : (∀ (H : Nat) (M1 : Mem) (ps1 : List Nat) (Q : Option Value → Mem → Prop), hK K ≤ H + 5 → CS b n s n0 τ M0 M1 i3 (K.length + 1) q.2.1.2.1 q.2.1.1.1 ps1 (tlK K) → EdP b n s n0 τ M0 (K.length + 1) ps1 (tlK K) (trS q.2.1).1 (fun v M' => Q (some (.int v)) M') (rp b n m τ g 0 ((40 * m + npS σ, q.2.1.1.1 4, 2, none) :: K) i3 (rwP (40 * m + npS σ) (some (r.2.1.1.1 4)) q.2.1) 0 0 0 0 0 0) → E H mdX4_readSeq [.ref 14, .int (Int32.ofNat (K.length + 1))] M1 Q) ∧ ∀ u, rp b n m τ g 0 ((40 * m + npS σ, q.2.1.1.1 4, 2, none) :: K) i3 (rwP (40 * m + npS σ) (some (r.2.1.1.1 4)) q.2.1) 0 0 0 0 0 0 = .ok u → (trS q.2.1).1 ≤ (trS u.2.1).1 ∧ u.2.2 < (trS u.2.1).1 := by
  obtain ⟨⟨q1, q2, q3⟩, I0, hl, n1, -⟩ := G.i0 hS e
  obtain ⟨w1, w2, ⟨w3, w4, w5⟩, w6, w7, w8⟩ := row_ok hS G e t1 eq
  have hg := G.2.2.2.2.1
  have hk := hK_s K (40 * m + npS σ, q.2.1.1.1 4, 2, none) (by omega)
  obtain ⟨rfl, ha2⟩ := adv_is ea
  have hs := hS.lt w4 w5 (by rw [k46]; decide)
  obtain ⟨z1, z2, -⟩ := rw_n (σ := q.2.1) (p := 40 * m + npS σ) (q0 := some (r.2.1.1.1 4))
  have I2 : RpI m 0 ((40 * m + npS σ, q.2.1.1.1 4, 2, none) :: K) (rwP (40 * m + npS σ) (some (r.2.1.1.1 4)) q.2.1) 0 0 := ⟨w6.rw, by show K.length + 1 ≤ 15; omega, fun _ => by show q.2.1.1.1 4 < _; rw [z2]; exact Nat.lt_succ_self _, fun z => absurd z (by decide), fun z => absurd z (by decide), by rw [z2, z1]; omega⟩
  refine ⟨fun H M1 ps1 Q hH C hE => ih.1 ((40 * m + npS σ, q.2.1.1.1 4, 2, none) :: K) (q.1 + 1) (rwP (40 * m + npS σ) (some (r.2.1.1.1 4)) q.2.1) 0 0 0 0 0 0 M1 ps1 H Q I2 (C.cnt rfl rfl rfl rfl) (by omega) (by omega) hE, fun u eu => ?_⟩
  have ok0 := rp_ok (τ := τ) (m := m) hS g 0 ((40 * m + npS σ, q.2.1.1.1 4, 2, none) :: K) (q.1 + 1) (rwP (40 * m + npS σ) (some (r.2.1.1.1 4)) q.2.1) 0 0 0 0 0 0 (by decide) hs ha2 I2
  rw [eu] at ok0
  obtain ⟨k1, k2, k3, ⟨p1, p2, p3, p4⟩, k5⟩ := ok0
  have t2 : 1 ≤ (trS q.2.1).1 := Nat.le_trans t1 w1
  exact ⟨p1.2.2.2.2 t2, p4 t2 (fun z => by omega)⟩
/-- a part without rows -/
theorem Z_leaf {H : Nat} {d : Int32} (hB : By b) (hS : Sto b n s) (hC : CS b n s n0 τ M0 M i K.length σ.2.1 σ.1.1 ps (tlK K)) (hj : j < ps.length) (ho : K.length ≤ 15) (hk : sal k) (hH : 90 ≤ H) (hE : EdP b n s n0 τ M0 K.length ps (tlK K) (trS σ).1 (fun v M' => Q (some (.int v)) M') (lfM b n m τ k w j i K σ)) : E H mdX4_readBody [.ref 14, .int k, .ref (ps.getD j 0), .int d] M Q := by
  obtain ⟨H, rfl⟩ : ∃ H', H = H' + 89 + 1 := ⟨H - 90, by omega⟩
  have F := hC.1.1
  rcases sal_ks hk with z | z | z | z | z | z | z <;> subst z
  · refine B_37 F ⟨4, rf14_1 F, ok4 F, S_mk F hC.2.1.trp (fun M1 T1 k1 _ => ⟨_, rfl, ?_⟩)⟩
    have hE : EdP b n s n0 τ M0 K.length ps (tlK K) (trS σ).1 (fun v M' => Q (some (.int v)) M') (.ok (i, trP1 σ (mkT (trS σ) 0).1, (mkT (trS σ) 0).2)) := hE
    exact hE.ok' (hC.tree k1 T1)
  · refine B_38 F ⟨4, rf14_1 F, ok4 F, S_pa F hC.2.1.trp (fun M1 T1 k1 _ => ⟨_, rfl, ?_⟩)⟩
    have hE : EdP b n s n0 τ M0 K.length ps (tlK K) (trS σ).1 (fun v M' => Q (some (.int v)) M') (.ok (i, trP1 σ (paT (trS σ)).1, (paT (trS σ)).2)) := hE
    exact hE.ok' (hC.tree k1 T1)
  · refine B_39 F ⟨4, rf14_1 F, ok4 F, S_ha F hC.2.1.trp (fun M1 T1 k1 _ => ⟨_, rfl, ?_⟩)⟩
    have hE : EdP b n s n0 τ M0 K.length ps (tlK K) (trS σ).1 (fun v M' => Q (some (.int v)) M') (.ok (i, trP1 σ (haT (trS σ)).1, (haT (trS σ)).2)) := hE
    exact hE.ok' (hC.tree k1 T1)
  · exact B_40 F (Z_emit (m := m) (w := w) hB hS hC hj ho (by omega) hE.qb)
  · exact B_41 F (Z_sust (m := m) (w := w) (j := j) hB hS hC (by omega) hE.qb)
  · exact B_47 F (Z_await (h := H + 29) (m := m) (w := w) (j := j) hB hS hC ho hE)
  · exact B_57 F (Z_exit (m := m) (w := w) (j := j) hB hS hC (by omega) hE.qb)
end
