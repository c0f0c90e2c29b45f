/-! the reference: parts with rows -/
section
variable {b : Nat → Int32} {n s m : Nat} {τ : Td} {K : List KE} {σ : PS} {M M' : Mem} {i o h g : Nat} {Q : Option Value → Mem → Prop}
/-- 'end' behind the rows of a choice -/
theorem ch_end {e : KE} {j lit x y q a2 : Nat} {M1 : Mem} {σ1 σ2 : PS} (he : e.1 = 40 * m + j) (h1 : σ2.1 = σ1.1) (h2 : σ2.2.2 = σ1.2.2) (h40 : npS σ1 ≤ 40) (G1 : RGp m M M1) (hE : EndZ b n s m τ K 2 a2 h M Q ((chM b n lit x y q σ2).bind fun u => .ok (u.1, fiP m j u.2.2 u.2.1, u.2.2))) : EndP b n s m τ (e :: K) σ1 (K.length + 1) M1 (fun M' => GPo b n s m τ K e h Q (some (.int 0)) M') (ex b n q 43) := by
  unfold chM at hE
  cases ew : ex b n q 43 with
  | error y => rw [ew] at hE; exact fun M2 T2 G2 => Or.inl ⟨_, _, rfl, T2, hE M2 T2 (G1.tr G2)⟩
  | ok i2 =>
    rw [ew] at hE
    refine fun M2 R2 G2 => Or.inr (Or.inl ⟨σ1, i2, rfl, R2, h40, fun M3 R3 G3 => hE M3 (R3.cg ?_ h2) ((G1.tr G2).tr G3) (fun z => absurd z (by decide))⟩)
    show (σ2.1.1, up2 σ2.1.2.1 71 (40 * m + j) (Int32.ofNat (40 * m + σ2.1.1 0)), σ2.1.2.2) = (σ1.1.1, up2 σ1.1.2.1 71 e.1 (Int32.ofNat (40 * m + σ1.1.1 0)), σ1.1.2.2)
    rw [h1, he]
theorem R_hh {a2 a3 : Nat} {r : Nat × PS × Nat × Bool × Nat × Option Int64} (hB : By b) (hz : ∀ i, n ≤ i → b i = 0) (hS : Sto b n s) (ih : RpS b n s m τ h Q g) (hi : i ≤ s) (h0 : tK b n i ≠ 0) (hI : RpI m 2 K σ a2 a3) (hN : KNm b n m σ K) (hg : 6 * (s + 1 - i) ≤ g + 1) (ho : okK (tK b n i) (tC b n i) K.length τ σ (tP b n i) = .ok ()) (ha : tK b n (i + 1) ≠ 0) (hop : opnK (tK b n i) = true) (e : hdM b n m τ (tK b n i) (npS σ) (i + 1) K (bgP m (tK b n i) (tP b n i) (sqK K) K.length (whK (tK b n i) (tC b n i) τ) σ) = .ok r) (k17 : tK b n i ≠ 17) (k44 : tK b n i ≠ 44) (k58 : tK b n i ≠ 58) (hE : EndZ b n s m τ K 2 a2 h M Q ((rp b n m τ g 0 ((40 * m + npS σ, r.2.1.1.1 4, 1, r.2.2.2.2.2) :: K) r.1 (rwP (40 * m + npS σ) none r.2.1) 0 0 0 0 0 0).bind fun q => ((tlM b n m τ (tK b n i) (npS σ) r.2.2.2.2.1 r.2.2.1 q.2.2 q.1 (K.length + 1) q.2.1).bind fun u => .ok (u.1, fiP m (npS σ) u.2.2 u.2.1, u.2.2)))) (M1 : Mem) (R1 : RPs b n s m τ ((40 * m + npS σ, r.2.1.1.1 4, 1, r.2.2.2.2.2) :: K) (rwP (40 * m + npS σ) none r.2.1) M1 r.1 (K.length + 1)) (G1 : RGp m M M1) : SLp h Q M1 := by
  obtain ⟨⟨t0, t1, t2⟩, prw, okw, ⟨n1, n2, n3⟩, ⟨hl, o3, o2⟩, x58, n69, kn⟩ := hh_facts hB hS hi h0 hI hN ho ha hop e
  have hc := hI.2.2.2.2.2
  have I0 : RpI m 0 ((40 * m + npS σ, r.2.1.1.1 4, 1, r.2.2.2.2.2) :: K) (rwP (40 * m + npS σ) none r.2.1) 0 0 := ⟨okw, by show K.length + 1 ≤ 15; omega, fun _ => by show r.2.1.1.1 4 < _; rw [n2, n3]; exact Nat.lt_succ_self _, fun z => absurd z (by decide), fun z => absurd z (by decide), by rw [n2, n1]; omega⟩
  have ok0 := rp_ok (τ := τ) (m := m) hS g 0 ((40 * m + npS σ, r.2.1.1.1 4, 1, r.2.2.2.2.2) :: K) r.1 (rwP (40 * m + npS σ) none r.2.1) 0 0 0 0 0 0 (by decide) t1 t0 I0
  refine ih 0 ((40 * m + npS σ, r.2.1.1.1 4, 1, r.2.2.2.2.2) :: K) r.1 (rwP (40 * m + npS σ) none r.2.1) 0 0 0 0 0 0 M1 (by decide) t0 I0 kn (fun z => absurd z (by decide)) R1 (by rw [w0]; omega) ?_
  cases e0 : rp b n m τ g 0 ((40 * m + npS σ, r.2.1.1.1 4, 1, r.2.2.2.2.2) :: K) r.1 (rwP (40 * m + npS σ) none r.2.1) 0 0 0 0 0 0 with
  | error y => rw [e0] at hE; exact fun M2 T2 G2 => hE M2 T2 (G1.tr G2)
  | ok q =>
    rw [e0] at hE ok0
    have hE : EndZ b n s m τ K 2 a2 h M Q ((tlM b n m τ (tK b n i) (npS σ) r.2.2.2.2.1 r.2.2.1 q.2.2 q.1 (K.length + 1) q.2.1).bind fun u => .ok (u.1, fiP m (npS σ) u.2.2 u.2.1, u.2.2)) := hE
    obtain ⟨k1, k2, k3, ⟨p1, p2, p3, p4⟩, k5⟩ := ok0
    intro M2 R2 G2 n13
    have R2 : RPs b n s m τ ((40 * m + npS σ, r.2.1.1.1 4, 1, r.2.2.2.2.2) :: K) q.2.1 M2 q.1 (K.length + 1) := R2
    have y58 : q.2.1.1.2.1 58 (40 * m + npS σ) = Int32.ofNat (soK (tK b n i)) := (p1.2.2.1 58 (by decide) (by decide) (by decide) (40 * m + npS σ) (by rw [n1]; omega)).trans x58
    have hk : tK b n i = 42 ∨ tK b n i = 49 ∨ tK b n i = 50 ∨ tK b n i = 52 ∨ tK b n i = 53 ∨ tK b n i = 55 := by
      rcases soK_cases o2 with w | w | w | w | w | w | w | w | w | w | w | w | w | w | w | w | w
      · rw [w] at hop; exact absurd hop (by decide)
      · rw [w] at hop; exact absurd hop (by decide)
      · rw [w] at hop; exact absurd hop (by decide)
      · rw [w] at hop; exact absurd hop (by decide)
      · rw [w] at hop; exact absurd hop (by decide)
      · exact Or.inl w
      · exact absurd w k44
      · rw [w] at hop; exact absurd hop (by decide)
      · exact Or.inr (Or.inl w)
      · exact Or.inr (Or.inr (Or.inl w))
      · exact Or.inr (Or.inr (Or.inr (Or.inl w)))
      · exact Or.inr (Or.inr (Or.inr (Or.inr (Or.inl w))))
      · exact Or.inr (Or.inr (Or.inr (Or.inr (Or.inr w))))
      · rw [w] at hop; exact absurd hop (by decide)
      · exact absurd w k58
      · rw [w] at hop; exact absurd hop (by decide)
      · exact absurd w k17
    refine R_behind (e := (40 * m + npS σ, r.2.1.1.1 4, 1, r.2.2.2.2.2)) (j := npS σ) R2 hB (n13 (by decide)) o3 rfl hl ?_
    refine P_goTail (h := h + 3) (e := (40 * m + npS σ, r.2.1.1.1 4, 1, r.2.2.2.2.2)) (k := tK b n i) (aw := r.2.2.2.2.1) (lit := r.2.2.1) (x := q.2.2) R2 hB hz hS k3 o3 (by omega) hk y58 ?_
    have tok := tlM_ok (F := True) (m := m) (τ := τ) (k := tK b n i) (j := npS σ) (aw := r.2.2.2.2.1) (lit := r.2.2.1) (x := q.2.2) (o := K.length + 1) (σ := q.2.1) hS k2
    cases et : tlM b n m τ (tK b n i) (npS σ) r.2.2.2.2.1 r.2.2.1 q.2.2 q.1 (K.length + 1) q.2.1 with
    | error y => rw [et] at hE; exact fun M3 T3 G3 => Or.inl ⟨_, _, rfl, T3, hE M3 T3 ((G1.tr G2).tr G3)⟩
    | ok u =>
      rw [et] at hE tok
      have cn : u.2.1.1.1 = q.2.1.1.1 := tok.2.2.2.1.1
      refine fun M3 R3 G3 => Or.inr (Or.inl ⟨u.2.1, u.1, rfl, R3, by unfold npS; rw [cn]; exact p2.1, fun M4 R4 G4 => hE M4 (R4.cg rfl rfl) (((G1.tr G2).tr G3).tr G4) (fun z => absurd z (by decide))⟩)
end
