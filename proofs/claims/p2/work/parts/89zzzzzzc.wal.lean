/-! the weaver, whole -/
section
variable {n0 l0 r0 nb : Nat} {Θ : TrT} {G : Nat → List Nat} {N : Nt} {Ro : List (Nat × Nat)} {M : Mem} {h x : Nat} {Q : Option Value → Mem → Prop}
theorem WvZ.kd {c : Nat} (hZ : WvZ n0 l0 r0 Θ N M) (hc : wvS n0 l0 r0 c) : mK M c = 11 ∨ mK M c = 21 ∨ mK M c = 2 ∨ mK M c = 1 := by
  obtain ⟨⟨-, -, -, n8, ⟨n9, -⟩, ⟨n5, n6⟩, -⟩, F, -, hC, ⟨hA1, hA2⟩, -⟩ := hZ
  unfold wvS at hc
  rcases hc with z | z | z | z | z | z | z | z
  · have : c = 21 ∨ c = 22 ∨ c = 23 ∨ c = 24 ∨ c = 25 ∨ c = 26 ∨ c = 27 ∨ c = 28 := by omega
    rcases this with e | e | e | e | e | e | e | e <;> rw [e]
    · exact Or.inl (ok21 F).2
    · exact Or.inr (Or.inl (ok22 F).2)
    · exact Or.inr (Or.inl (ok23 F).2)
    · exact Or.inr (Or.inl (ok24 F).2)
    · exact Or.inr (Or.inl (ok25 F).2)
    · exact Or.inr (Or.inl (ok26 F).2)
    · exact Or.inr (Or.inl (ok27 F).2)
    · exact Or.inr (Or.inl (ok28 F).2)
  · rw [z]; exact Or.inr (Or.inr (Or.inl hC.1.2))
  · rw [z]; exact Or.inr (Or.inl n5.2)
  · rw [z]; exact Or.inr (Or.inl n6.2)
  · rw [z]; exact Or.inr (Or.inr (Or.inr hA1.ok1.2))
  · rw [z]; exact Or.inr (Or.inr (Or.inr hA2.ok1.2))
  · have : c = n0 + 17 ∨ c = n0 + 18 ∨ c = n0 + 19 := by omega
    rcases this with e | e | e <;> rw [e]
    · exact Or.inr (Or.inl (n8 17 (Or.inl rfl)).1.2)
    · exact Or.inr (Or.inl (n8 18 (Or.inr (Or.inl rfl))).1.2)
    · exact Or.inr (Or.inl (n8 19 (Or.inr (Or.inr rfl))).1.2)
  · rw [z]; exact Or.inr (Or.inl n9.2)
/-- what weaving leaves: the walk's end, signals closed, parts told -/
def WvE (n0 l0 r0 S : Nat) (ro : List Int32) (Θ : TrT) (G : Nat → List Nat) (N : Nt) (Ro : List (Nat × Nat)) (g x : Nat) (ps : List Nat) (xs : Nat → Nat) (M M' : Mem) : Prop := ∃ Ψ1 Ψ2 P zp M1, WkQ Θ G n0 g x (N, Ro, []) (up4 (mAI M) x 2 3 0 0) 0 Ψ1 P zp ∧ FiQ ro (P (n0 + 21)) S Ψ1 Ψ2 ∧ RoW Ψ1 ∧ WvP n0 l0 r0 N.length Θ M Ψ2 M1 ∧ RwP n0 P zp M1 ∧ mI M1 (n0 + 8) 16 = P 28 (x * 20) ∧ NuF (fun c => ∃ j, j < ps.length ∧ c = ps.getD j 0) M1 M' ∧ ∀ j, j < ps.length → (∀ f, f < 8 → mI M' (ps.getD j 0) f = mI M (ps.getD j 0) f) ∧ TpV Θ P M' (ps.getD j 0) (xs j)
theorem W_all {g S pb : Nat} {ro : List Int32} {ps : List Nat} {xs : Nat → Nat} (hZ : WvZ n0 l0 r0 Θ N M) (hR : RoW (N, Ro, [])) (hN : 2 ≤ N.length ∧ N.length < 40000) (hf : ∀ z y y', z ∈ G y → z ∈ G y' → y = y') (hft : FtN G g x) (hnd : (noL G g x).Nodup) (hsh : ∀ z, z ∈ noL G g x → ShN Θ G nb z) (hlen : (noL G g x).length ≤ 400) (hnb : nb ≤ N.length) (e16 : mI M n0 16 = Int32.ofNat x) (p9 : Θ.2.2 9 x = 0) (p8 : Θ.2.2 8 x = 0) (k5 : Θ.2.2 5 x ≠ 8) (k0 : Θ.2.2 5 0 = 0) (hF : FnB n0 S ro M) (hro : ∀ t, t < S → 2 + t < N.length ∧ (Ro.getD (2 + t) (0, 0)).1 ≠ 0 ∧ (Ro.getD (2 + t) (0, 0)).1 ≠ 6) (f6 : mR M n0 6 = some (n0 + 7)) (hA : ALp M (n0 + 7) pb 5 ps) (hps : ∀ j, j < ps.length → ok M (ps.getD j 0) 5 ∧ mI M (ps.getD j 0) 1 = Int32.ofNat (xs j) ∧ xs j < 640) (hpn : ∀ i j, i < ps.length → j < ps.length → ps.getD i 0 = ps.getD j 0 → i = j) (hl : ps.length ≤ 1000) (K : ∀ M', WvE n0 l0 r0 S ro Θ G N Ro g x ps xs M M' → Q none M') : E (h + 10) mdX9_weave [.ref 21, .ref n0] M Q := by
  have hs := hsh x (noL_hd hft)
  obtain ⟨⟨x1, x2, x3⟩, -⟩ := id hs
  obtain ⟨hB, F, hT, hC, -, ⟨f7, o3⟩, -, -, hem⟩ := id hZ
  obtain ⟨⟨n1, n2⟩, n3, -⟩ := id hB
  refine W_wv (h := h) hZ hR hN hf hft hnd hsh hlen hnb e16 p9 p8 k5 k0 (fun M1 Ψ1 P zp W1 R1 q => ?_)
  obtain ⟨F1, -, -, -, hR1, -⟩ := W1.sees hB
  obtain ⟨g1, b1, -, -, -, -, ex⟩ := id q
  have g1l : N.length ≤ Ψ1.1.length := g1.1.1
  have b1 : Ψ1.1.length + 62 * (G x).length + 113 ≤ N.length + 115 * (noL G g x).length := b1.1
  unfold DX9_weave_137
  refine ⟨ok21 F1, W_fin1 (h := h + 7) hB W1 R1 (by omega) hF (fun t ht => ?_) ex.1 x3 e16 (fun M2 Ψ2 W2 R2 i16 fq => ?_)⟩
  · have y := hro t ht
    refine ⟨by omega, ?_⟩
    rw [g1.1.2.2.1 (2 + t) y.1]
    exact y.2
  · obtain ⟨F2, hT2, -, -, hR2, -⟩ := W2.sees hB
    obtain ⟨lc, rc, b1, b2, hls, hH⟩ := id W2
    have fw := hH.2.2.2.2.2.1.1
    have rown : ∀ c, c < mN M → ¬ wvS n0 l0 r0 c → sameRow M M2 c := fun c z y => fw.2 c z y
    have nS0 : ¬ wvS n0 l0 r0 n0 := fun z => by unfold wvS at z; unfold LrB at n3; omega
    have nS7 : ¬ wvS n0 l0 r0 (n0 + 7) := fun z => by unfold wvS at z; unfold LrB at n3; omega
    have nSp : ∀ j, j < ps.length → ¬ wvS n0 l0 r0 (ps.getD j 0) := fun j hj z => by
      have k := (hps j hj).1.2
      rcases hZ.kd z with e | e | e | e <;> (rw [k] at e; exact absurd e (by decide))
    have A2 : ALp M2 (n0 + 7) pb 5 ps := hA.fr fw nS7 (fun hk z => by
      rcases hZ.kd z with e | e | e | e <;> (rw [hk] at e; exact absurd e (by decide)))
    have r0' := rown n0 (by omega) nS0
    refine W_fin2 (h := h + 5) (Θ := Θ) (P := P) (xs := xs) F2 (ok_E o3 fw.1) (by rw [r0'.2.2.1]; exact f6) A2 (fun j hj => ?_) hpn (hT2.2.2.2.1 12 (by decide) (by decide)) (fun j => R2.1 22 j (Or.inl (by omega))) (fun j => R2.1 28 j (Or.inl (by omega))) hl (fun M3 N3 t3 _ => ⟨rfl, K M3 ⟨Ψ1, Ψ2, P, zp, M2, q, fq, hR1, W2, R2, i16, N3, fun j hj => ⟨fun f hf => ?_, (t3 j hj).2⟩⟩⟩)
    · have y := hps j hj
      have rp := rown _ y.1.1 (nSp j hj)
      exact ⟨ok_E y.1 fw.1, by rw [rp.1]; exact y.2.1, y.2.2⟩
    · have y := hps j hj
      have rp := rown _ y.1.1 (nSp j hj)
      rw [(t3 j hj).1 f hf, rp.1]
end
