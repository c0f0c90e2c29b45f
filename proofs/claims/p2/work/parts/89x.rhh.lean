/-! the reference: what is known once a part with rows is opened -/
section
variable {b : Nat → Int32} {n s m : Nat} {τ : Td} {K : List KE} {σ : PS} {M M' : Mem} {i o h g : Nat} {Q : Option Value → Mem → Prop}
theorem hh_facts {a2 a3 : Nat} {r : Nat × PS × Nat × Bool × Nat × Option Int64} (hB : By b) (hS : Sto b n s) (hi : i ≤ s) (h0 : tK b n i ≠ 0) (hI : RpI m 2 K σ a2 a3) (hN : KNm b n m σ K) (ho : okK (tK b n i) (tC b n i) K.length τ σ (tP b n i) = .ok ()) (ha : tK b n (i + 1) ≠ 0) (hop : opnK (tK b n i) = true) (e : hdM b n m τ (tK b n i) (npS σ) (i + 1) K (bgP m (tK b n i) (tP b n i) (sqK K) K.length (whK (tK b n i) (tC b n i) τ) σ) = .ok r) :
    (tK b n r.1 ≠ 0 ∧ r.1 ≤ s ∧ i < r.1) ∧ Pv m (40 * m + npS σ) σ (rwP (40 * m + npS σ) none r.2.1) ∧ PsOk m (rwP (40 * m + npS σ) none r.2.1) ∧ (npS (rwP (40 * m + npS σ) none r.2.1) = npS σ + 1 ∧ (rwP (40 * m + npS σ) none r.2.1).1.1 4 = σ.1.1 4 + 1 ∧ r.2.1.1.1 4 = σ.1.1 4) ∧ (K.length ≤ 14 ∧ npS σ < 40 ∧ soK (tK b n i) ≠ 99) ∧ (rwP (40 * m + npS σ) none r.2.1).1.2.1 58 (40 * m + npS σ) = Int32.ofNat (soK (tK b n i)) ∧ (rwP (40 * m + npS σ) none r.2.1).1.2.1 69 (40 * m + npS σ) ≠ -1 ∧ KNm b n m (rwP (40 * m + npS σ) none r.2.1) ((40 * m + npS σ, r.2.1.1.1 4, 1, r.2.2.2.2.2) :: K) := by
  obtain ⟨hP, hK, hq, -, -, hc⟩ := hI
  obtain ⟨o1, o2, o3, o4, o5⟩ := okK_ok ho
  have n1 : tK b n i ≠ 1 := fun z => o2 (by rw [z]; exact soK_1)
  have hs := hS.lt hi h0 n1
  have hok := hdM_ok (F := True) (m := m) (τ := τ) (k := tK b n i) (j := npS σ) (K := K) (σ := bgP m (tK b n i) (tP b n i) (sqK K) K.length (whK (tK b n i) (tC b n i) τ) σ) hS (i := i + 1) hs ha
  rw [e] at hok
  obtain ⟨q1, q2, q3, hH, -⟩ := hok
  obtain ⟨b58, b69⟩ := bg58 (m := m) (σ := σ) (k := tK b n i) (pl := tP b n i) (q := sqK K) (d := K.length) (wh := whK (tK b n i) (tC b n i) τ)
  obtain ⟨n1', n2', -, -⟩ := bg_n (m := m) (σ := σ) (k := tK b n i) (pl := tP b n i) (q := sqK K) (d := K.length) (wh := whK (tK b n i) (tC b n i) τ)
  have pb : Pv m (40 * m + npS σ) σ (bgP m (tK b n i) (tP b n i) (sqK K) K.length (whK (tK b n i) (tC b n i) τ) σ) := Pv.bg (Nat.le_refl _)
  have prw : Pv m (40 * m + npS σ) σ (rwP (40 * m + npS σ) none r.2.1) := (pb.tr (Pv.hd hH (Nat.le_refl _))).tr (Pv.rw (fun _ => Nat.le_refl _))
  have okr : PsOk m r.2.1 := (hP.bg o3 o4 hK (hq (by decide))).hd hH
  have en : npS r.2.1 = npS σ + 1 := by rw [← n1']; unfold npS; rw [hH.1]
  have e4 : r.2.1.1.1 4 = σ.1.1 4 := by rw [hH.1]; exact n2'
  obtain ⟨m1, m2, -⟩ := rw_n (σ := r.2.1) (p := 40 * m + npS σ) (q0 := none)
  have r58 : r.2.1.1.2.1 58 (40 * m + npS σ) = Int32.ofNat (soK (tK b n i)) := by rw [hH.2.1 58 _ (Or.inl (by decide))]; exact b58
  have x58 : (rwP (40 * m + npS σ) none r.2.1).1.2.1 58 (40 * m + npS σ) = Int32.ofNat (soK (tK b n i)) := by
    rw [← r58]
    simp [rwP, up2]
  have x69 : (rwP (40 * m + npS σ) none r.2.1).1.2.1 69 (40 * m + npS σ) = Int32.ofNat (r.2.1.1.1 4) := by simp [rwP, up2]
  have n69 : (rwP (40 * m + npS σ) none r.2.1).1.2.1 69 (40 * m + npS σ) ≠ -1 := by
    rw [x69]
    intro z
    have z2 := congrArg Int32.toInt z
    rw [ti32 (by omega)] at z2
    have : (-1 : Int32).toInt = -1 := by decide
    omega
  have hl14 : K.length ≤ 14 := by
    have : K.length ≠ 15 := fun z => o5 ⟨hop, z⟩
    omega
  exact ⟨⟨q3, q2, by omega⟩, prw, okr.rw, ⟨m1.trans en, by rw [m2, e4], e4⟩, ⟨hl14, o3, o2⟩, x58, n69, KNm.push hB hN prw (by rw [m1, en]; omega) e o2 x58⟩
end
