/-! the reference reads rows of parts: what is to be shown, and its steps -/
def stZ (m md : Nat) (K : List KE) (a2 a3 a4 : Nat) : List KE := if md = 3 then (40 * m + a2, a3, a4, none) :: K else K
def EndZ (b : Nat → Int32) (n s m : Nat) (τ : Td) (K : List KE) (md a2 h : Nat) (M : Mem) (Q : Option Value → Mem → Prop) (R : Except (Int32 × Nat) (Nat × PS × Nat)) : Prop := match R with
  | .error e => ∀ M', TXr M' e.1 e.2 → RGp m M M' → Q (some (.int 0)) M'
  | .ok r => ∀ M', RPs b n s m τ K (if md = 3 then raP r.2.1 (up2 r.2.1.1.2.1 71 (40 * m + a2) (Int32.ofNat (40 * m + npS r.2.1))) else r.2.1) M' r.1 K.length → RGp m M M' → (md ≤ 1 → tK b n r.1 ≠ 13) → SBh h Q M'
def StZ (md h : Nat) (Q : Option Value → Mem → Prop) (M : Mem) : Prop := if md = 1 then SBh h Q M else SLp h Q M
def RpS (b : Nat → Int32) (n s m : Nat) (τ : Td) (h : Nat) (Q : Option Value → Mem → Prop) (g : Nat) : Prop := ∀ (md : Nat) (K : List KE) (i : Nat) (σ : PS) (a1 a2 a3 a4 : Nat) (c1 c2 : Int32) (M : Mem), md ≤ 3 → tK b n i ≠ 0 → RpI m md K σ a2 a3 → KNm b n m σ (stZ m md K a2 a3 a4) → (md = 3 → σ.1.2.1 58 (40 * m + a2) = 16 ∧ σ.1.2.1 69 (40 * m + a2) ≠ -1 ∧ 1 ≤ a4 ∧ a4 ≤ 8) → RPs b n s m τ (stZ m md K a2 a3 a4) σ M i (stZ m md K a2 a3 a4).length → 6 * (s + 1 - i) + wM md ≤ g → EndZ b n s m τ K md a2 h M Q (rp b n m τ g md K i σ a1 a2 a3 a4 c1 c2) → StZ md h Q M
section
variable {b : Nat → Int32} {n s m : Nat} {τ : Td} {K : List KE} {σ : PS} {M M' : Mem} {i o h g : Nat} {Q : Option Value → Mem → Prop}
/-- a part and what follows it in its row -/
theorem R_then {q : Nat} (hS : Sto b n s) (ih : RpS b n s m τ h Q g) (hR : RPs b n s m τ K σ M i K.length) (h0 : tK b n i ≠ 0) (hI : RpI m 2 K σ 0 0) (hN : KNm b n m σ K) (hg : 6 * (s + 1 - i) ≤ g) (hE : EndZ b n s m τ K 0 0 h M Q ((rp b n m τ g 2 K i σ 0 0 0 0 0 0).bind fun r => rp b n m τ g 1 K r.1 (hgP r.2.1 q r.2.2) q 0 0 0 0 0)) : SLp h Q M := by
  have ok2 := rp_ok (τ := τ) (m := m) hS g 2 K i σ 0 0 0 0 0 0 (by decide) hR.2.1.2.2 h0 hI
  have r2 := ih 2 K i σ 0 0 0 0 0 0 M (by decide) h0 hI hN (fun z => absurd z (by decide)) hR (by rw [w2]; omega)
  refine r2 ?_
  cases e : rp b n m τ g 2 K i σ 0 0 0 0 0 0 with
  | error y => rw [e] at hE; exact hE
  | ok r =>
    rw [e] at hE ok2
    obtain ⟨k1, k2, k3, ⟨p1, p2, p3, p4⟩, k5⟩ := ok2
    have k5 := k5 (by decide)
    have hE : EndZ b n s m τ K 0 0 h M Q (rp b n m τ g 1 K r.1 (hgP r.2.1 q r.2.2) q 0 0 0 0 0) := hE
    intro M1 R1 G1 _
    have R1 : RPs b n s m τ K r.2.1 M1 r.1 K.length := R1
    have R1' : RPs b n s m τ K (hgP r.2.1 q r.2.2) M1 r.1 K.length := R1.tree
    have r1 := ih 1 K r.1 (hgP r.2.1 q r.2.2) q 0 0 0 0 0 M1 (by decide) k3 ⟨p2, hI.2.1, fun _ => Nat.lt_of_lt_of_le (hI.2.2.1 (by decide)) p1.2.1, fun z => absurd z (by decide), fun _ => p3, Nat.le_succ_of_le p3⟩ (hN.pv (p1.tr Pv.hg)) (fun z => absurd z (by decide)) R1' (by rw [w1]; omega)
    refine r1 ?_
    cases e1 : rp b n m τ g 1 K r.1 (hgP r.2.1 q r.2.2) q 0 0 0 0 0 with
    | error y => rw [e1] at hE; exact fun M2 T2 G2 => hE M2 T2 (G1.tr G2)
    | ok r' => rw [e1] at hE; exact fun M2 R2 G2 q => hE M2 R2 (G1.tr G2) (fun _ => q (by decide))
theorem R_row {a1 a2 a3 a4 : Nat} {c1 c2 : Int32} (hS : Sto b n s) (ih : RpS b n s m τ h Q g) (hR : RPs b n s m τ K σ M i K.length) (h0 : tK b n i ≠ 0) (hI : RpI m 0 K σ a2 a3) (hN : KNm b n m σ K) (hg : 6 * (s + 1 - i) + 1 ≤ g + 1) (hE : EndZ b n s m τ K 0 a2 h M Q (rp b n m τ (g + 1) 0 K i σ a1 a2 a3 a4 c1 c2)) : SLp h Q M := by
  unfold rp at hE
  rw [if_pos (show (0 : Nat) = 0 from rfl)] at hE
  exact R_then (q := (mkT (trS σ) 5).2) (σ := trP1 σ (mkT (trS σ) 5).1) hS ih hR.tree h0 ⟨hI.1, hI.2.1, fun _ => hI.2.2.1 (by decide), fun z => absurd z (by decide), fun z => absurd z (by decide), hI.2.2.2.2.2⟩ hN (by omega) hE
theorem R_more {a1 a2 a3 a4 : Nat} {c1 c2 : Int32} (hB : By b) (hz : ∀ i, n ≤ i → b i = 0) (hS : Sto b n s) (ih : RpS b n s m τ h Q g) (hR : RPs b n s m τ K σ M i K.length) (h0 : tK b n i ≠ 0) (hI : RpI m 1 K σ a2 a3) (hN : KNm b n m σ K) (hg : 6 * (s + 1 - i) ≤ g + 1) (hE : EndZ b n s m τ K 1 a2 h M Q (rp b n m τ (g + 1) 1 K i σ a1 a2 a3 a4 c1 c2)) : SBh h Q M := by
  unfold rp at hE
  rw [if_neg (show ¬ (1 : Nat) = 0 by decide), if_pos (show (1 : Nat) = 1 from rfl)] at hE
  by_cases k : tK b n i = 13
  · rw [if_pos k] at hE
    have hs := hS.lt hR.2.1.2.2 h0 (by rw [k]; decide)
    refine R_semi hR hB hz hS k (fun k1 M1 R1 G1 => ?_) (fun k1 M1 T1 G1 => ?_)
    · rw [adv_ok' k1] at hE
      have hE : EndZ b n s m τ K 1 a2 h M Q ((rp b n m τ g 2 K (i + 1) σ 0 0 0 0 0 0).bind fun r => rp b n m τ g 1 K r.1 (hgP r.2.1 a1 r.2.2) a1 0 0 0 0 0) := hE
      refine R_then (q := a1) hS ih R1 k1 ⟨hI.1, hI.2.1, fun _ => hI.2.2.1 (by decide), fun z => absurd z (by decide), fun z => absurd z (by decide), hI.2.2.2.2.2⟩ hN (by omega) ?_
      cases e : (rp b n m τ g 2 K (i + 1) σ 0 0 0 0 0 0).bind fun r => rp b n m τ g 1 K r.1 (hgP r.2.1 a1 r.2.2) a1 0 0 0 0 0 with
      | error y => rw [e] at hE; exact fun M2 T2 G2 => hE M2 T2 (G1.tr G2)
      | ok r => rw [e] at hE; exact fun M2 R2 G2 q => hE M2 R2 (G1.tr G2) (fun _ => q (by decide))
    · rw [adv_er' k1] at hE
      exact hE M1 T1 G1
  · rw [if_neg k] at hE
    exact hE M hR RG.rf (fun _ => k)
end
